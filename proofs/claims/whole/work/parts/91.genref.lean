/-! genera: what they are; the reference -/
noncomputable def q_gs (h : Nat) (J : Nat → Nat → Nat) : Nat → Nat × (Nat → Int32)
  | 0 => (0, fun _ => -1)
  | i + 1 => if (q_gs h J i).2 i = -1 then ((q_gs h J i).1 + 1, fun c => @ite Int32 (∃ k, k < h ∧ c = J i (J k k)) (Classical.propDecidable _) (q_i (q_gs h J i).1) ((q_gs h J i).2 c)) else q_gs h J i
theorem q_gs_yes {h i : Nat} {J : Nat → Nat → Nat} (e : (q_gs h J i).2 i = -1) : (q_gs h J (i + 1)).1 = (q_gs h J i).1 + 1 ∧ ∀ c, ((∃ k, k < h ∧ c = J i (J k k)) → (q_gs h J (i + 1)).2 c = q_i (q_gs h J i).1) ∧ ((¬ ∃ k, k < h ∧ c = J i (J k k)) → (q_gs h J (i + 1)).2 c = (q_gs h J i).2 c) := by
  have e2 : q_gs h J (i + 1) = ((q_gs h J i).1 + 1, fun c => @ite Int32 (∃ k, k < h ∧ c = J i (J k k)) (Classical.propDecidable _) (q_i (q_gs h J i).1) ((q_gs h J i).2 c)) := if_pos e
  rw [e2]
  refine ⟨rfl, fun c => ⟨fun q => ?_, fun q => ?_⟩⟩
  · exact if_pos q
  · exact if_neg q
theorem q_gs_no {h i : Nat} {J : Nat → Nat → Nat} (e : ¬ (q_gs h J i).2 i = -1) : q_gs h J (i + 1) = q_gs h J i := if_neg e
theorem p_X10_sqrLoop {d R : Int} (hdc : q_dc d R) (h4 : q_d4 d) : ∀ (r k : Nat) (z : q_Z), k + r = q_nc2 d R → q_Mg d R z → q_Mtab d R z → (∀ c, c < k → z.1 141 c = -1 ∧ z.1 142 c = q_i (q_J d R c c)) → ∃ z2, q_lp B_X10_findGenera_2 (r + 1) (q_i k, z) = some ((q_i (q_nc2 d R), z2), 0) ∧ (∀ c, c < q_nc2 d R → z2.1 141 c = -1 ∧ z2.1 142 c = q_i (q_J d R c c)) ∧ q_fy z z2 := by
  have hn := q_nc2_le hdc h4
  intro r
  induction r with
  | zero =>
    intro k z hk hg hT hc
    have e : k = q_nc2 d R := by omega
    subst e
    refine ⟨z, q_lp_end ?_, hc, q_fy_rfl z⟩
    simp only [B_X10_findGenera_2]
    rw [q_M23 hT, if_pos (by rw [q_nle (by omega) (by omega)]; omega)]
  | succ r ih =>
    intro k z hk hg hT hc
    have f0 : q_fy z (q_u2 z.1 141 k (-1), z.2) := q_fy_u _ (by omega)
    obtain ⟨L1, a1, a2⟩ := q_J_X10 hdc h4 (q_Mg_fy hg f0) (q_Mtab_fy hT f0) (show k < q_nc2 d R by omega) (show k < q_nc2 d R by omega)
    have f1 : q_fy z (q_u2 (q_u2 z.1 141 k (-1)) 142 k (q_i (q_J d R k k)), L1) := q_fy_trans f0 (q_fy_trans (q_fy_L a2) (q_fy_u (z := (q_u2 z.1 141 k (-1), L1)) _ (by omega)))
    obtain ⟨z2, b1, b2, b3⟩ := ih (k + 1) (q_u2 (q_u2 z.1 141 k (-1)) 142 k (q_i (q_J d R k k)), L1) (by omega) (q_Mg_fy hg f1) (q_Mtab_fy hT f1) (by
      intro c hck
      refine ⟨?_, ?_⟩
      · show q_u2 (q_u2 z.1 141 k (-1)) 142 k (q_i (q_J d R k k)) 141 c = _
        rw [q_u2_ne (by decide), q_u2_at]
        by_cases e : c = k
        · rw [if_pos e]
        · rw [if_neg e]
          exact (hc c (by omega)).1
      · show q_u2 (q_u2 z.1 141 k (-1)) 142 k (q_i (q_J d R k k)) 142 c = _
        rw [q_u2_at]
        by_cases e : c = k
        · rw [if_pos e, e]
        · rw [if_neg e, q_u2_ne (by decide)]
          exact (hc c (by omega)).2)
    refine ⟨z2, ?_, b2, q_fy_trans f1 b3⟩
    rw [q_lp_go (s1 := (q_i ((k + 1 : Nat) : Int), (q_u2 (q_u2 z.1 141 k (-1)) 142 k (q_i (q_J d R k k)), L1)))]
    · exact b1
    · simp only [B_X10_findGenera_2]
      rw [q_M23 hT, if_neg (by rw [q_nle (by omega) (by omega)]; omega), q_nti (by omega), if_pos (by omega), q_ncl (by omega), a1, Option.bind_some]
      dsimp only
      rw [if_pos (by omega), q_nsu]
theorem p_X10_gen1 {d R : Int} {i : Nat} {v : Int32} {O : Nat → Int32} (hdc : q_dc d R) (h4 : q_d4 d) (hi : i < q_nc2 d R) : ∀ (r k : Nat) (z : q_Z), k + r = q_nc2 d R → q_Mg d R z → q_Mtab d R z → (∀ c, c < q_nc2 d R → z.1 142 c = q_i (q_J d R c c)) → (∀ c, c < q_nc2 d R → ((∃ j, j < k ∧ c = q_J d R i (q_J d R j j)) → z.1 141 c = v) ∧ ((¬ ∃ j, j < k ∧ c = q_J d R i (q_J d R j j)) → z.1 141 c = O c)) → ∃ z2, q_lp B_X10_findGenera_62 (r + 1) (v, q_i i, q_i k, z) = some ((v, q_i i, q_i (q_nc2 d R), z2), 0) ∧ (∀ c, c < q_nc2 d R → ((∃ j, j < q_nc2 d R ∧ c = q_J d R i (q_J d R j j)) → z2.1 141 c = v) ∧ ((¬ ∃ j, j < q_nc2 d R ∧ c = q_J d R i (q_J d R j j)) → z2.1 141 c = O c)) ∧ z2.1 142 = z.1 142 ∧ q_fy z z2 := by
  have hn := q_nc2_le hdc h4
  intro r
  induction r with
  | zero =>
    intro k z hk hg hT hs hc
    have e : k = q_nc2 d R := by omega
    subst e
    refine ⟨z, q_lp_end ?_, hc, rfl, q_fy_rfl z⟩
    simp only [B_X10_findGenera_62]
    rw [q_M23 hT, if_pos (by rw [q_nle (by omega) (by omega)]; omega)]
  | succ r ih =>
    intro k z hk hg hT hs hc
    have hk1 : k < q_nc2 d R := by omega
    have hJ := q_J_lt hdc h4 hk1 hk1
    have hJ2 := q_J_lt hdc h4 hi hJ
    obtain ⟨L1, a1, a2⟩ := q_J_X10 hdc h4 hg hT hi hJ
    have f1 : q_fy z (q_u2 z.1 141 (q_J d R i (q_J d R k k)) v, L1) := q_fy_trans (q_fy_L a2) (q_fy_u (z := (z.1, L1)) _ (by omega))
    obtain ⟨z2, b1, b2, b3, b4⟩ := ih (k + 1) (q_u2 z.1 141 (q_J d R i (q_J d R k k)) v, L1) (by omega) (q_Mg_fy hg f1) (q_Mtab_fy hT f1) (by
      intro c hcn
      show q_u2 z.1 141 (q_J d R i (q_J d R k k)) v 142 c = _
      rw [q_u2_ne (by decide)]
      exact hs c hcn) (by
      intro c hcn
      show (_ → q_u2 z.1 141 (q_J d R i (q_J d R k k)) v 141 c = v) ∧ (_ → q_u2 z.1 141 (q_J d R i (q_J d R k k)) v 141 c = O c)
      rw [q_u2_at]
      by_cases e : c = q_J d R i (q_J d R k k)
      · rw [if_pos e]
        exact ⟨fun _ => rfl, fun q => absurd ⟨k, by omega, e⟩ q⟩
      · rw [if_neg e]
        refine ⟨fun ⟨j, j1, j2⟩ => (hc c hcn).1 ⟨j, ?_, j2⟩, fun q => (hc c hcn).2 fun ⟨j, j1, j2⟩ => q ⟨j, by omega, j2⟩⟩
        by_cases ej : j = k
        · rw [ej] at j2
          exact absurd j2 e
        · omega)
    refine ⟨z2, ?_, b2, b3.trans (by show q_u2 z.1 141 (q_J d R i (q_J d R k k)) v 142 = z.1 142; rw [q_u2_ne (by decide)]), q_fy_trans f1 b4⟩
    rw [q_lp_go (s1 := (v, q_i i, q_i ((k + 1 : Nat) : Int), (q_u2 z.1 141 (q_J d R i (q_J d R k k)) v, L1)))]
    · exact b1
    · simp only [B_X10_findGenera_62]
      rw [q_M23 hT, if_neg (by rw [q_nle (by omega) (by omega)]; omega), q_nti (by omega), if_pos (by omega), q_ncl (by omega), hs k hk1, a1, Option.bind_some]
      dsimp only
      rw [q_nti (by omega), if_pos (by omega), q_ncl (by omega), q_nsu]
theorem p_X10_gen2 {d R : Int} (hdc : q_dc d R) (h4 : q_d4 d) : ∀ (r i : Nat) (z : q_Z), i + r = q_nc2 d R → q_Mg d R z → q_Mtab d R z → (∀ c, c < q_nc2 d R → z.1 142 c = q_i (q_J d R c c)) → (∀ c, c < q_nc2 d R → z.1 141 c = (q_gs (q_nc2 d R) (q_J d R) i).2 c) → ∃ z2, q_lp B_X10_findGenera_39 (r + 1) (q_i (q_gs (q_nc2 d R) (q_J d R) i).1, q_i i, z) = some ((q_i (q_gs (q_nc2 d R) (q_J d R) (q_nc2 d R)).1, q_i (q_nc2 d R), z2), 0) ∧ (∀ c, c < q_nc2 d R → z2.1 141 c = (q_gs (q_nc2 d R) (q_J d R) (q_nc2 d R)).2 c) ∧ q_fy z z2 := by
  have hn := q_nc2_le hdc h4
  intro r
  induction r with
  | zero =>
    intro i z hi hg hT hs hc
    have e : i = q_nc2 d R := by omega
    rw [e] at hc ⊢
    refine ⟨z, q_lp_end ?_, hc, q_fy_rfl z⟩
    simp only [B_X10_findGenera_39]
    rw [q_M23 hT, if_pos (by rw [q_nle (by omega) (by omega)]; omega)]
  | succ r ih =>
    intro i z hi hg hT hs hc
    have hi1 : i < q_nc2 d R := by omega
    by_cases c : (q_gs (q_nc2 d R) (q_J d R) i).2 i = -1
    · obtain ⟨y1, y2⟩ := q_gs_yes c
      obtain ⟨z1, a1, a2, a3, a4⟩ := p_X10_gen1 (v := q_i (q_gs (q_nc2 d R) (q_J d R) i).1) (O := (q_gs (q_nc2 d R) (q_J d R) i).2) hdc h4 hi1 (q_nc2 d R) 0 z (by omega) hg hT hs (fun c hcn => ⟨fun ⟨j, j1, _⟩ => by omega, fun _ => hc c hcn⟩)
      have a1 := q_lp_mono a1 (show q_nc2 d R + 1 ≤ q_fu by unfold q_fu; omega)
      have a1 : q_lp B_X10_findGenera_62 q_fu (q_i (q_gs (q_nc2 d R) (q_J d R) i).1, q_i i, 0, z) = _ := a1
      obtain ⟨z2, b1, b2, b3⟩ := ih (i + 1) z1 (by omega) (q_Mg_fy hg a4) (q_Mtab_fy hT a4) (by rw [a3]; exact hs) (by
        intro e hen
        by_cases q : ∃ k, k < q_nc2 d R ∧ e = q_J d R i (q_J d R k k)
        · rw [(y2 e).1 q]
          exact (a2 e hen).1 q
        · rw [(y2 e).2 q]
          exact (a2 e hen).2 q)
      refine ⟨z2, ?_, b2, q_fy_trans a4 b3⟩
      rw [q_lp_go (s1 := (q_i (q_gs (q_nc2 d R) (q_J d R) (i + 1)).1, q_i ((i + 1 : Nat) : Int), z1))]
      · exact b1
      · simp only [B_X10_findGenera_39]
        rw [q_M23 hT, if_neg (by rw [q_nle (by omega) (by omega)]; omega), q_nti (by omega), if_pos (by omega), q_ncl (by omega), hc i hi1, if_pos c, a1, Option.bind_some]
        dsimp only
        rw [if_pos rfl]
        unfold T_X10_findGenera_96
        rw [q_nsu, q_nsu, y1]
    · have e0 := q_gs_no c
      obtain ⟨z2, b1, b2, b3⟩ := ih (i + 1) z (by omega) hg hT hs (by rw [e0]; exact hc)
      refine ⟨z2, ?_, b2, b3⟩
      rw [q_lp_go (s1 := (q_i (q_gs (q_nc2 d R) (q_J d R) (i + 1)).1, q_i ((i + 1 : Nat) : Int), z))]
      · exact b1
      · simp only [B_X10_findGenera_39]
        rw [q_M23 hT, if_neg (by rw [q_nle (by omega) (by omega)]; omega), q_nti (by omega), if_pos (by omega), q_ncl (by omega), hc i hi1, if_neg c]
        unfold T_X10_findGenera_96
        rw [q_nsu, e0]
theorem p_X10_findGenera {d R : Int} {z : q_Z} (hdc : q_dc d R) (h4 : q_d4 d) (hg : q_Mg d R z) (hT : q_Mtab d R z) : ∃ z2, F_X10_findGenera z = some (q_i (q_gs (q_nc2 d R) (q_J d R) (q_nc2 d R)).1, z2) ∧ (∀ c, c < q_nc2 d R → z2.1 141 c = (q_gs (q_nc2 d R) (q_J d R) (q_nc2 d R)).2 c) ∧ q_fy z z2 := by
  have hn := q_nc2_le hdc h4
  obtain ⟨z1, a1, a2, a3⟩ := p_X10_sqrLoop hdc h4 (q_nc2 d R) 0 z (by omega) hg hT (fun c hc => by omega)
  have a1 := q_lp_mono a1 (show q_nc2 d R + 1 ≤ q_fu by unfold q_fu; omega)
  have a1 : q_lp B_X10_findGenera_2 q_fu (0, z) = _ := a1
  obtain ⟨z2, b1, b2, b3⟩ := p_X10_gen2 hdc h4 (q_nc2 d R) 0 z1 (by omega) (q_Mg_fy hg a3) (q_Mtab_fy hT a3) (fun c hc => (a2 c hc).2) (fun c hc => (a2 c hc).1)
  have b1 := q_lp_mono b1 (show q_nc2 d R + 1 ≤ q_fu by unfold q_fu; omega)
  have b1 : q_lp B_X10_findGenera_39 q_fu (0, 0, z1) = _ := b1
  refine ⟨z2, ?_, b2, q_fy_trans a3 b3⟩
  unfold F_X10_findGenera
  rw [a1, Option.bind_some]
  dsimp only
  rw [if_pos rfl, b1]
  rfl
