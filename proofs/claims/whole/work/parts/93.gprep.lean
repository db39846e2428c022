/-! the class's tables of the group; order, group, genus, genera -/
theorem q_someY {d R : Int} (hdc : q_dc d R) (h4 : q_d4 d) : ∃ y : q_Z, q_Mg d R y ∧ q_Mtab d R y := by
  obtain ⟨y, -, z0, z1, zt, -, -⟩ := p_becomes hdc h4 (fun _ _ => 0, fun _ _ => 0)
  exact ⟨y, ⟨z0, z1⟩, zt⟩
theorem q_GC_13 {d R : Int} {z : q_Z} (hdc : q_dc d R) (h4 : q_d4 d) (h : q_GC d R z) : ∀ i, i < q_nc2 d R → z.1 13 i = q_i (q_or (q_J d R) i) := by
  intro i hi
  obtain ⟨y, y1, y2⟩ := q_someY hdc h4
  obtain ⟨z2, e⟩ := (h y y1.1 y1.2 y2).1 i hi
  obtain ⟨L2, e2, -⟩ := p_X10_orderOf hdc h4 y1 y2 hi
  rw [e2] at e
  exact (congrArg Prod.fst (Option.some.inj e)).symm
theorem q_GC_r {d R : Int} {z : q_Z} {rc : Nat} {rg : Nat → Nat} (hdc : q_dc d R) (h4 : q_d4 d) (hrc : rc ≤ 16) (hr : ∀ z, q_Mg d R z → q_Mtab d R z → ∃ z2, F_X10_findRings z = some ((), z2) ∧ q_RY d R rc rg z2 ∧ q_fy z z2) (h : q_GC d R z) : z.1 2 5 = q_i rc ∧ ∀ k, k < rc → z.1 16 k = q_i (rg k) := by
  obtain ⟨y, y1, y2⟩ := q_someY hdc h4
  obtain ⟨y3, e, e2, e3⟩ := (h y y1.1 y1.2 y2).2.1
  obtain ⟨y4, f, ⟨-, -, f2, f3⟩, -⟩ := hr y y1 y2
  rw [f] at e
  have ey : y4 = y3 := congrArg Prod.snd (Option.some.inj e)
  subst ey
  rw [f2] at e2 e3
  rw [q_ncl (by omega)] at e3
  exact ⟨e2.symm, fun k hk => by rw [← e3 k hk]; exact f3 k (by omega)⟩
theorem q_GC_g {d R : Int} {z : q_Z} (hdc : q_dc d R) (h4 : q_d4 d) (h : q_GC d R z) : z.1 2 6 = q_i (q_gs (q_nc2 d R) (q_J d R) (q_nc2 d R)).1 ∧ ∀ i, i < q_nc2 d R → z.1 14 i = (q_gs (q_nc2 d R) (q_J d R) (q_nc2 d R)).2 i := by
  obtain ⟨y, y1, y2⟩ := q_someY hdc h4
  obtain ⟨y3, e, e2⟩ := (h y y1.1 y1.2 y2).2.2
  obtain ⟨y4, f, f2, -⟩ := p_X10_findGenera hdc h4 y1 y2
  rw [f] at e
  have e0 := Option.some.inj e
  have ey : y4 = y3 := congrArg Prod.snd e0
  subst ey
  exact ⟨(congrArg Prod.fst e0).symm, fun i hi => by rw [← e2 i hi]; exact f2 i hi⟩
theorem p_X3_fill {d R : Int} {z : q_Z} (hdc : q_dc d R) (h4 : q_d4 d) (hg : q_Cg d R z) (hT : q_TC d R z) (h11 : z.1 3 11 = q_i d) (hne : ¬ z.1 2 7 = z.1 3 11) : ∃ z2, (q_lp (B_X3_prepare_35) q_fu (0, (q_u2 z.1 2 7 (z.1 3 11), z.2))).bind (fun ((w5, z4), tg) => if tg = 0 then (q_lp (B_X3_prepare_64) q_fu (0, z4)).bind fun ((w11, z10), tg) => if tg = 0 then T_X3_prepare_102 z10 else none else none) = some ((), z2) ∧ z2.1 2 7 = q_i d ∧ q_GC d R z2 ∧ q_fz (fun n => n = 2 ∨ (13 ≤ n ∧ n ≤ 16)) z z2 := by
  have hn := q_nc2_le hdc h4
  obtain ⟨rc, rg, r1, r2, r3⟩ := q_rings_both hdc h4
  have fA : q_fz (fun n => n = 2 ∨ (13 ≤ n ∧ n ≤ 16)) z (q_u2 z.1 2 7 (z.1 3 11), z.2) := q_fz_u z _ (Or.inl rfl)
  obtain ⟨zB, b1, b2, b3⟩ := p_X3_prep35 128 0 (q_u2 z.1 2 7 (z.1 3 11), z.2) (by omega) (fun j hj => by omega)
  have b1 := q_lp_mono b1 (show 128 + 1 ≤ q_fu by unfold q_fu; omega)
  have b1 : q_lp B_X3_prepare_35 q_fu (0, (q_u2 z.1 2 7 (z.1 3 11), z.2)) = _ := b1
  have fB : q_fz (fun n => n = 2 ∨ (13 ≤ n ∧ n ≤ 16)) z zB := q_fz_trans fA b3 (fun _ q => q) (fun n q => by omega)
  obtain ⟨zC, c1, c2, c3⟩ := p_X3_prep64 hdc h4 (q_nc2 d R) 0 zB (by omega) (q_Cg_fz hg fB (fun n hn => by omega)) (q_TC_fz hT fB (fun n hn => by omega)) (fun c hc => Or.inl (b2 c (by omega)).1) (fun c hc => by omega)
  have c1 := q_lp_mono c1 (show q_nc2 d R + 1 ≤ q_fu by unfold q_fu; omega)
  have c1 : q_lp B_X3_prepare_64 q_fu (0, zB) = _ := c1
  have fC : q_fz (fun n => n = 2 ∨ (13 ≤ n ∧ n ≤ 16)) z zC := q_fz_trans fB c3 (fun _ q => q) (fun n q => by omega)
  obtain ⟨zD, d1, ⟨d2, d3, d4⟩, d5, d6⟩ := r2 zC (q_TC_fz hT fC (fun n hn => by omega)) c2
  have fD : q_fz (fun n => n = 2 ∨ (13 ≤ n ∧ n ≤ 16)) z zD := q_fz_trans fC d6 (fun _ q => q) (fun n q => by omega)
  have h14 : ∀ c, c < q_nc2 d R → zD.1 14 c = -1 := by
    intro c hc
    rw [d6.1 14 (by decide), c3.1 14 (by decide)]
    exact (b2 c (by omega)).2
  obtain ⟨len, ch, zE, e1, e2, e3, e4, e5, e6⟩ := p_X3_listSquares hdc h4 (q_Cg_fz hg fD (fun n hn => by omega)) d2 h14
  have fE : q_fz (fun n => n = 2 ∨ (13 ≤ n ∧ n ≤ 16)) z zE := q_fz_trans fD e6 (fun _ q => q) (fun n q => by omega)
  obtain ⟨zF, f1, f2, f3, f4, f5⟩ := p_X3_numberGenera hdc h4 e2 e4 (q_Cg_fz hg fE (fun n hn => by omega)) (q_TC_fz hT fE (fun n hn => by omega)) e3 e5
  have fF : q_fz (fun n => n = 2 ∨ (13 ≤ n ∧ n ≤ 16)) z zF := q_fz_trans fE f5 (fun _ q => q) (fun n q => by omega)
  refine ⟨zF, ?_, ?_, ?_, fF⟩
  · rw [b1, Option.bind_some]
    dsimp only
    rw [if_pos rfl, c1, Option.bind_some]
    dsimp only
    rw [if_pos rfl]
    unfold T_X3_prepare_102
    rw [d1, Option.bind_some]
    dsimp only
    rw [e1, Option.bind_some]
    dsimp only
    rw [f1]
    rfl
  · rw [f4 7 (by decide), e6.1 2 (by decide), d5, c3.1 2 (by decide), b3.1 2 (by decide)]
    show q_u2 z.1 2 7 (z.1 3 11) 2 7 = _
    rw [q_u2_at, if_pos rfl, h11]
  · intro y y0 y1 yt
    refine ⟨fun i hi => ?_, ?_, ?_⟩
    · obtain ⟨L2, o1, -⟩ := p_X10_orderOf hdc h4 ⟨y0, y1⟩ yt hi
      refine ⟨(y.1, L2), ?_⟩
      rw [o1, f5.1 13 (by decide), e6.1 13 (by decide), d3 i hi]
    · obtain ⟨y2, o1, ⟨-, -, o2, o3⟩, -⟩ := r3 y ⟨y0, y1⟩ yt
      refine ⟨y2, o1, ?_, fun k hk => ?_⟩
      · rw [o2, f4 5 (by decide), e6.1 2 (by decide), d4.1]
      · rw [o2, q_ncl (by omega)] at hk
        rw [o3 k (by omega), f5.1 16 (by decide), e6.1 16 (by decide), d4.2 k hk]
    · obtain ⟨y2, o1, o2, -⟩ := p_X10_findGenera hdc h4 ⟨y0, y1⟩ yt
      refine ⟨y2, ?_, fun i hi => ?_⟩
      · rw [o1, f2]
      · rw [o2 i hi, f3 i hi]
theorem p_X3_prepare {s : q_SS} {z : q_Z} (hv : q_V s) (hz : q_C s z) : ∃ z1, F_X3_prepare z = some ((), z1) ∧ q_C s z1 ∧ q_fC z z1 ∧ q_TC s.1.1 s.1.2.1 z1 ∧ q_GC s.1.1 s.1.2.1 z1 := by
  obtain ⟨z1, a1, a2, a3, a4, a5⟩ := p_prep hv hz
  obtain ⟨z0, b1, b2, b3, b4⟩ := p_X0_prepare hv.1 hv.2.1 hz.1 hz.2.2.2.2.2.2
  have ez : z1 = z0 := by
    rw [b1] at a1
    exact (congrArg Prod.snd (Option.some.inj a1)).symm
  subst ez
  have hdb : q_b s.1.1 ∧ s.1.1 ≠ 0 := by rcases hv.1 with q | q <;> exact ⟨⟨by omega, by omega⟩, by omega⟩
  by_cases c : z1.1 2 7 = z1.1 3 11
  · refine ⟨z1, ?_, a2, a3, a4, ?_⟩
    · unfold F_X3_prepare
      rw [a1, Option.bind_some]
      dsimp only
      rw [if_pos c]
    · rcases a2.2.2.2.2.2.2.2 with q | ⟨d2, R2, q1, q2, q3, q4⟩
      · rw [c, b3] at q
        have := (q_i_eq hdb.1 ⟨by omega, by omega⟩).mp (q.trans q_i0)
        exact absurd this hdb.2
      · rw [c, b3] at q3
        have hb2 : q_b d2 := by rcases q1 with q | q <;> exact ⟨by omega, by omega⟩
        have e := (q_i_eq hdb.1 hb2).mp q3
        subst e
        have e2 := q_dc_uni hv.1 q1
        rw [e2]
        exact q4
  · obtain ⟨z2, c1, c2, c3, c4⟩ := p_X3_fill hv.1 hv.2.1 a2.1 a4 b3 c
    have hT2 := q_TC_fz a4 c4 (fun n hn => by omega)
    have h11 : z2.1 3 11 = q_i s.1.1 := by rw [c4.1 3 (by omega)]; exact b3
    refine ⟨z2, ?_, ?_, ?_, hT2, c3⟩
    · unfold F_X3_prepare
      rw [a1, Option.bind_some]
      dsimp only
      rw [if_neg c]
      exact c1
    · refine q_C_keep s.1.2.2 a2 hv (fun n hn => ⟨c4.1 n (by omega), c4.2 n (by omega) (by omega) (by omega)⟩) (by rw [c4.1 1 (by omega)]; exact a2.2.1) ⟨Or.inr ⟨_, _, hv.1, hv.2.1, h11, hT2⟩, Or.inr ⟨_, _, hv.1, hv.2.1, c2, c3⟩⟩
    · exact q_fC_trans a3 (fun n hn => ⟨c4.1 n (by omega), c4.2 n (by omega) (by omega) (by omega)⟩)
theorem q_MW_fy {z y z2 : q_Z} (h : q_MW z y) (e : q_fy y z2) : q_MW z z2 :=
  q_MW_trans h ⟨fun n hn hl => ⟨e.1 n hn (Or.inl hl), e.2.2 n hn⟩, e.2.1 0 (by decide), e.2.1 1 (by decide), e.2.1 6 (by decide), e.2.1 7 (by decide), e.2.1 11 (by decide), e.2.1 22 (by decide), e.2.1 23 (by decide)⟩
theorem k_order {s : q_SS} (hv : q_V s) (l1 : Int32) : q_cok (fun z => F_X9_order z l1) (fun z => F_X10_order z l1) s := by
  obtain ⟨x, hx, rfl⟩ := q_i_of l1
  have hle := q_nc2_le hv.1 hv.2.1
  by_cases c : 0 ≤ x ∧ x < q_nc2 s.1.1 s.1.2.1
  · obtain ⟨X, rfl⟩ : ∃ X : Nat, x = X := ⟨x.toNat, by omega⟩
    have hX : X < q_nc2 s.1.1 s.1.2.1 := by omega
    refine ⟨q_i (q_or (q_J s.1.1 s.1.2.1) X), ((s.1.1, s.1.2.1, 0), s.2), hv, fun z hz => ?_, fun z hz => ?_⟩
    · obtain ⟨z1, a1, a2, a3, a4, a5⟩ := p_X3_prepare hv hz
      have k := q_C_t0 a2 hv 0
      refine ⟨_, ?_, k.1, q_fC_trans a3 k.2⟩
      show F_X9_order z (q_i X) = _
      unfold F_X9_order
      rw [a1, Option.bind_some]
      dsimp only
      rw [p_X0_hasClass hv.1 hv.2.1 a4 hx, Option.bind_some, if_pos c]
      dsimp only
      rw [if_neg (by decide), q_nti (by omega), if_pos (by omega), q_ncl (by omega), q_GC_13 hv.1 hv.2.1 a5 X hX]
      rfl
    · obtain ⟨L2, b1, b2⟩ := p_X10_orderOf (z := (q_u2 (q_u2 z.1 128 3 0) 128 2 0, z.2)) hv.1 hv.2.1 hz.1 (q_Mtab_t (z := (q_u2 z.1 128 3 0, z.2)) 0 (by decide) (q_Mtab_t 0 (by decide) hz.2.2.2.2.2.2)) hX
      have k := q_M_work (z2 := (q_u2 (q_u2 z.1 128 3 0) 128 2 0, L2)) 0 hz (q_MW_LL (L := z.2) (q_MW_t (z2 := (q_u2 z.1 128 3 0, z.2)) 0 (by decide) (q_MW_t (z2 := z) 0 (by decide) (q_MW_rfl z))) b2) rfl
      refine ⟨_, ?_, k.1, k.2⟩
      show F_X10_order z (q_i X) = _
      unfold F_X10_order
      rw [p_X10_isClass (z := (q_u2 z.1 128 3 0, z.2)) hv.1 hv.2.1 (q_M23 hz.2.2.2.2.2.2) hx, Option.bind_some, if_pos c]
      dsimp only
      rw [if_neg (by decide), b1, Option.bind_some]
  · refine ⟨-1, ((s.1.1, s.1.2.1, 2), s.2), hv, fun z hz => ?_, fun z hz => ?_⟩
    · obtain ⟨z1, a1, a2, a3, a4, a5⟩ := p_X3_prepare hv hz
      have k := q_C_t0 a2 hv 2
      refine ⟨_, ?_, k.1, q_fC_trans a3 k.2⟩
      show F_X9_order z (q_i x) = _
      unfold F_X9_order
      rw [a1, Option.bind_some]
      dsimp only
      rw [p_X0_hasClass hv.1 hv.2.1 a4 hx, Option.bind_some, if_neg c]
      rfl
    · have k := q_M_work (z2 := (q_u2 (q_u2 z.1 128 3 0) 128 2 2, z.2)) 2 hz (q_MW_t (z2 := (q_u2 z.1 128 3 0, z.2)) 2 (by decide) (q_MW_t (z2 := z) 0 (by decide) (q_MW_rfl z))) rfl
      refine ⟨_, ?_, k.1, k.2⟩
      show F_X10_order z (q_i x) = _
      unfold F_X10_order
      rw [p_X10_isClass (z := (q_u2 z.1 128 3 0, z.2)) hv.1 hv.2.1 (q_M23 hz.2.2.2.2.2.2) hx, Option.bind_some, if_neg c]
      rfl
theorem k_genus {s : q_SS} (hv : q_V s) (l1 : Int32) : q_cok (fun z => F_X9_genus z l1) (fun z => F_X10_genus z l1) s := by
  obtain ⟨x, hx, rfl⟩ := q_i_of l1
  have hle := q_nc2_le hv.1 hv.2.1
  by_cases c : 0 ≤ x ∧ x < q_nc2 s.1.1 s.1.2.1
  · obtain ⟨X, rfl⟩ : ∃ X : Nat, x = X := ⟨x.toNat, by omega⟩
    have hX : X < q_nc2 s.1.1 s.1.2.1 := by omega
    refine ⟨(q_gs (q_nc2 s.1.1 s.1.2.1) (q_J s.1.1 s.1.2.1) (q_nc2 s.1.1 s.1.2.1)).2 X, ((s.1.1, s.1.2.1, 0), s.2), hv, fun z hz => ?_, fun z hz => ?_⟩
    · obtain ⟨z1, a1, a2, a3, a4, a5⟩ := p_X3_prepare hv hz
      have k := q_C_t0 a2 hv 0
      refine ⟨_, ?_, k.1, q_fC_trans a3 k.2⟩
      show F_X9_genus z (q_i X) = _
      unfold F_X9_genus
      rw [a1, Option.bind_some]
      dsimp only
      rw [p_X0_hasClass hv.1 hv.2.1 a4 hx, Option.bind_some, if_pos c]
      dsimp only
      rw [if_neg (by decide), q_nti (by omega), if_pos (by omega), q_ncl (by omega), (q_GC_g hv.1 hv.2.1 a5).2 X hX]
      rfl
    · obtain ⟨z2, b1, b2, b3⟩ := p_X10_findGenera (z := (q_u2 (q_u2 z.1 128 3 0) 128 2 0, z.2)) hv.1 hv.2.1 hz.1 (q_Mtab_t (z := (q_u2 z.1 128 3 0, z.2)) 0 (by decide) (q_Mtab_t 0 (by decide) hz.2.2.2.2.2.2))
      have k := q_M_work (z2 := z2) 0 hz (q_MW_fy (q_MW_t (z2 := (q_u2 z.1 128 3 0, z.2)) 0 (by decide) (q_MW_t (z2 := z) 0 (by decide) (q_MW_rfl z))) b3) ((b3.2.1 2 (by decide)).trans rfl)
      refine ⟨_, ?_, k.1, k.2⟩
      show F_X10_genus z (q_i X) = _
      unfold F_X10_genus
      rw [p_X10_isClass (z := (q_u2 z.1 128 3 0, z.2)) hv.1 hv.2.1 (q_M23 hz.2.2.2.2.2.2) hx, Option.bind_some, if_pos c]
      dsimp only
      rw [if_neg (by decide), b1, Option.bind_some]
      dsimp only
      rw [q_nti (by omega), if_pos (by omega), q_ncl (by omega), b2 X hX]
  · refine ⟨-1, ((s.1.1, s.1.2.1, 2), s.2), hv, fun z hz => ?_, fun z hz => ?_⟩
    · obtain ⟨z1, a1, a2, a3, a4, a5⟩ := p_X3_prepare hv hz
      have k := q_C_t0 a2 hv 2
      refine ⟨_, ?_, k.1, q_fC_trans a3 k.2⟩
      show F_X9_genus z (q_i x) = _
      unfold F_X9_genus
      rw [a1, Option.bind_some]
      dsimp only
      rw [p_X0_hasClass hv.1 hv.2.1 a4 hx, Option.bind_some, if_neg c]
      rfl
    · have k := q_M_work (z2 := (q_u2 (q_u2 z.1 128 3 0) 128 2 2, z.2)) 2 hz (q_MW_t (z2 := (q_u2 z.1 128 3 0, z.2)) 2 (by decide) (q_MW_t (z2 := z) 0 (by decide) (q_MW_rfl z))) rfl
      refine ⟨_, ?_, k.1, k.2⟩
      show F_X10_genus z (q_i x) = _
      unfold F_X10_genus
      rw [p_X10_isClass (z := (q_u2 z.1 128 3 0, z.2)) hv.1 hv.2.1 (q_M23 hz.2.2.2.2.2.2) hx, Option.bind_some, if_neg c]
      rfl
theorem k_genera {s : q_SS} (hv : q_V s) : q_cok F_X9_genera F_X10_genera s := by
  refine ⟨q_i (q_gs (q_nc2 s.1.1 s.1.2.1) (q_J s.1.1 s.1.2.1) (q_nc2 s.1.1 s.1.2.1)).1, ((s.1.1, s.1.2.1, s.1.2.2), s.2), hv, fun z hz => ?_, fun z hz => ?_⟩
  · obtain ⟨z1, a1, a2, a3, a4, a5⟩ := p_X3_prepare hv hz
    refine ⟨z1, ?_, a2, a3⟩
    unfold F_X9_genera
    rw [a1, Option.bind_some]
    dsimp only
    rw [(q_GC_g hv.1 hv.2.1 a5).1]
  · obtain ⟨z2, b1, b2, b3⟩ := p_X10_findGenera (z := (q_u2 z.1 128 3 0, z.2)) hv.1 hv.2.1 hz.1 (q_Mtab_t 0 (by decide) hz.2.2.2.2.2.2)
    have k := q_M_work (z2 := z2) s.1.2.2 hz (q_MW_fy (q_MW_t (z2 := z) 0 (by decide) (q_MW_rfl z)) b3) ((b3.2.1 2 (by decide)).trans hz.2.1)
    refine ⟨z2, ?_, k.1, k.2⟩
    unfold F_X10_genera
    rw [b1]
    rfl
theorem k_group {s : q_SS} (hv : q_V s) (l1 : Int32) : q_cok (fun z => F_X9_group z l1) (fun z => F_X10_group z l1) s := by
  obtain ⟨x, hx, rfl⟩ := q_i_of l1
  obtain ⟨rc, rg, r1, r2, r3⟩ := q_rings_both hv.1 hv.2.1
  have hin : ∀ y : q_Z, y.1 128 31 = q_i rc → F_X10_in y (Int32.toInt64 (q_i x)) 0 (Int32.toInt64 (y.1 128 31 - 1)) = some (if 0 ≤ x ∧ x ≤ (rc : Int) - 1 then 1 else 0, y) := by
    intro y hy
    rw [hy, q_i1, q_i_sub, q_l_i hx, q_l_i ⟨by omega, by omega⟩, q_l0]
    exact p_X10_in ⟨by omega, by omega⟩ ⟨by omega, by omega⟩ ⟨by omega, by omega⟩
  by_cases c : 0 ≤ x ∧ x ≤ (rc : Int) - 1
  · obtain ⟨X, rfl⟩ : ∃ X : Nat, x = X := ⟨x.toNat, by omega⟩
    have hX : X < rc := by omega
    refine ⟨q_i (rg X), ((s.1.1, s.1.2.1, 0), s.2), hv, fun z hz => ?_, fun z hz => ?_⟩
    · obtain ⟨z1, a1, a2, a3, a4, a5⟩ := p_X3_prepare hv hz
      obtain ⟨g1, g2⟩ := q_GC_r hv.1 hv.2.1 r1 r3 a5
      have k := q_C_t0 a2 hv 0
      refine ⟨_, ?_, k.1, q_fC_trans a3 k.2⟩
      show F_X9_group z (q_i X) = _
      unfold F_X9_group
      rw [a1, Option.bind_some]
      dsimp only
      rw [if_neg (by rw [show (0 : Int32) = q_i ((0 : Nat) : Int) from rfl, q_nlt (by omega) (by omega)]; omega), g1, if_neg (by rw [q_nle (by omega) (by omega)]; omega), if_pos (by rw [show (16 : Int32) = q_i ((16 : Nat) : Int) from rfl, q_nlt (by omega) (by omega)]; omega), q_nti (by omega), if_pos (by omega), q_ncl (by omega), g2 X hX]
      rfl
    · obtain ⟨z2, b1, ⟨-, -, b4, b5⟩, b3⟩ := r3 (q_u2 z.1 128 3 0, z.2) hz.1 (q_Mtab_t 0 (by decide) hz.2.2.2.2.2.2)
      have k := q_M_work (z2 := (q_u2 z2.1 128 2 0, z2.2)) 0 hz (q_MW_t (z2 := z2) 0 (by decide) (q_MW_fy (q_MW_t (z2 := z) 0 (by decide) (q_MW_rfl z)) b3)) rfl
      refine ⟨_, ?_, k.1, k.2⟩
      show F_X10_group z (q_i X) = _
      unfold F_X10_group
      rw [b1, Option.bind_some]
      dsimp only
      rw [hin z2 b4, Option.bind_some, if_pos c]
      dsimp only
      rw [if_neg (by decide), q_nti (by omega), if_pos (by omega), q_ncl (by omega), b5 X (by omega)]
  · refine ⟨-1, ((s.1.1, s.1.2.1, 2), s.2), hv, fun z hz => ?_, fun z hz => ?_⟩
    · obtain ⟨z1, a1, a2, a3, a4, a5⟩ := p_X3_prepare hv hz
      obtain ⟨g1, g2⟩ := q_GC_r hv.1 hv.2.1 r1 r3 a5
      have k := q_C_t0 a2 hv 2
      refine ⟨_, ?_, k.1, q_fC_trans a3 k.2⟩
      show F_X9_group z (q_i x) = _
      unfold F_X9_group
      rw [a1, Option.bind_some]
      dsimp only
      by_cases c2 : x < 0
      · rw [if_pos (by rw [q_i0, q_i_lt hx ⟨by omega, by omega⟩]; exact c2)]
        rfl
      · rw [if_neg (by rw [q_i0, q_i_lt hx ⟨by omega, by omega⟩]; exact c2), g1, if_pos (by rw [q_i_le ⟨by omega, by omega⟩ hx]; omega)]
        rfl
    · obtain ⟨z2, b1, ⟨-, -, b4, b5⟩, b3⟩ := r3 (q_u2 z.1 128 3 0, z.2) hz.1 (q_Mtab_t 0 (by decide) hz.2.2.2.2.2.2)
      have k := q_M_work (z2 := (q_u2 z2.1 128 2 2, z2.2)) 2 hz (q_MW_t (z2 := z2) 2 (by decide) (q_MW_fy (q_MW_t (z2 := z) 0 (by decide) (q_MW_rfl z)) b3)) rfl
      refine ⟨_, ?_, k.1, k.2⟩
      show F_X10_group z (q_i x) = _
      unfold F_X10_group
      rw [b1, Option.bind_some]
      dsimp only
      rw [hin z2 b4, Option.bind_some, if_neg c]
      rfl
