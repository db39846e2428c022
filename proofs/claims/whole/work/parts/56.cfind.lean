/-! find, prepare -/
/-- the first LEAST form that STEPS come to -/
noncomputable def q_fn (d R : Int) (f : q_f3) : Nat := Classical.epsilon (fun n => n ≤ 100 ∧ q_L3 d R (q_its d R n f) = true ∧ ∀ m, m < n → q_L3 d R (q_its d R m f) = false)
theorem q_fn_spec {d R : Int} {f : q_f3} (hdc : q_dc d R) (h : q_G d f) : q_fn d R f ≤ 100 ∧ q_L3 d R (q_its d R (q_fn d R f) f) = true ∧ ∀ m, m < q_fn d R f → q_L3 d R (q_its d R m f) = false :=
  Classical.epsilon_spec (p := fun n => n ≤ 100 ∧ q_L3 d R (q_its d R n f) = true ∧ ∀ m, m < n → q_L3 d R (q_its d R m f) = false) (q_first hdc h.1 (by have := h.2.2.2.2.1; have := h.2.2.2.2.2; omega))
noncomputable def q_red (d R : Int) (f : q_f3) : q_f3 := q_its d R (q_fn d R f) f
theorem q_red_LF {d R : Int} {f : q_f3} (hdc : q_dc d R) (h : q_G d f) : q_LF d R (q_red d R f) := by
  have hG := q_G_its hdc (q_fn d R f) f h
  exact ⟨hG.1, hG.2.1, (q_fn_spec hdc h).2.1⟩
theorem q_dc_uni {d R S : Int} (h1 : q_dc d R) (h2 : q_dc d S) : R = S := by
  rcases h1 with ⟨a1, a2, a3⟩ | ⟨a1, a2, a3, a4, a5⟩
  · rcases h2 with ⟨b1, b2, b3⟩ | ⟨b1, b2, b3, b4, b5⟩
    · omega
    · omega
  · rcases h2 with ⟨b1, b2, b3⟩ | ⟨b1, b2, b3, b4, b5⟩
    · omega
    · exact q_sqrt_uni (n := d) (by omega) (by omega) (by omega) a5 (by omega) b5
theorem p_X0_findLoop {d R : Int} {I : Nat → Nat → Int32} {L : Nat → Nat → Int64} (hd : I 4 0 = q_i d) (hR : I 4 1 = q_i R) (hdc : q_dc d R) : ∀ (r t : Nat) (f : q_f3), t + r < 100000 → q_G d f → (0 < (q_its d R r f).1 ∧ q_L3 d R (q_its d R r f) = true) → (∀ m, m < r → ¬ (0 < (q_its d R m f).1 ∧ q_L3 d R (q_its d R m f) = true)) → q_lp B_X0_find_10 (r + 1) (q_i t, (I, q_v3 L 10 f)) = some ((q_i ((t + r : Nat) : Int), (I, q_v3 L 10 (q_its d R r f))), 0) := by
  have tst : ∀ t : Nat, t < 100000 → ¬ (100000 : Int32) ≤ q_i t := by
    intro t ht
    rw [show (100000 : Int32) = q_i 100000 from rfl, q_i_le (by decide) ⟨by omega, by omega⟩]
    omega
  intro r
  induction r with
  | zero =>
    intro t f ht hG h1 _
    obtain ⟨a1, a2⟩ := h1
    have a1 : 0 < f.1 := a1
    have a2 : q_L3 d R f = true := a2
    have b1 := hG.2.2.1
    have el := p_X2_isLeast3 (I := I) (L := L) (o := 10) hd hR hdc hG.1 (q_G_s3 hG)
    rw [if_pos a2] at el
    refine q_lp_end ?_
    obtain ⟨w0, w1, w2⟩ := q_v3_at L 10 f
    simp only [B_X0_find_10]
    rw [if_neg (tst t (by omega)), if_neg (by rw [w0, q_l0, q_l_lt ⟨by have := b1.1; omega, by have := b1.2; omega⟩ (by decide)]; omega), el, Option.bind_some]
    rfl
  | succ r ih =>
    intro t f ht hG h1 h2
    have hne := h2 0 (by omega)
    have hne : ¬ (0 < f.1 ∧ q_L3 d R f = true) := hne
    have b1 := hG.2.2.1
    have hf0 := hG.1.2.1
    have ad := p_X2_advance3 (I := I) (L := L) (o := 10) hd hR hdc hG.1 (q_G_s3 hG)
    have hb : B_X0_find_10 (q_i t, (I, q_v3 L 10 f)) = some ((q_i ((t + 1 : Nat) : Int), (I, q_v3 L 10 (q_st d R f))), 0) := by
      obtain ⟨w0, w1, w2⟩ := q_v3_at L 10 f
      simp only [B_X0_find_10, T_X0_find_42]
      rw [if_neg (tst t (by omega))]
      by_cases c : f.1 < 0
      · rw [if_pos (by rw [w0, q_l0, q_l_lt ⟨by have := b1.1; omega, by have := b1.2; omega⟩ (by decide)]; omega), ad, Option.bind_some, q_i1, q_i_add]
        rfl
      · have hl : ¬ q_L3 d R f = true := fun q => hne ⟨by omega, q⟩
        have el := p_X2_isLeast3 (I := I) (L := L) (o := 10) hd hR hdc hG.1 (q_G_s3 hG)
        rw [if_neg hl] at el
        rw [if_neg (by rw [w0, q_l0, q_l_lt ⟨by have := b1.1; omega, by have := b1.2; omega⟩ (by decide)]; omega), el, Option.bind_some]
        dsimp only
        rw [if_pos rfl, ad, Option.bind_some, q_i1, q_i_add]
        rfl
    have := ih (t + 1) (q_st d R f) (by omega) (q_G_st hdc hG) h1 (fun m hm => h2 (m + 1) (by omega))
    rw [q_lp_go hb, this, show t + (r + 1) = t + 1 + r by omega]
    rfl
/-- find() answers the class of a form, which stays -/
theorem p_X0_find {d R : Int} {z : q_Z} {o : Nat} {f : q_f3} (hdc : q_dc d R) (h4 : q_d4 d) (hg : q_Cg d R z) (hT : q_TC d R z) (hG : q_G d f) (h3 : q_3 (z.2 o) 0 f) : ∃ L2, F_X0_find o z = some (q_i (q_kls d R (q_red d R f)), (z.1, L2)) ∧ ∀ k, k ≠ 10 → L2 k = z.2 k := by
  have isT := q_TT_T hdc h4
  have hn := q_TT_n hdc h4
  have fs := q_fn_spec hdc hG
  have hLF := q_red_LF hdc hG
  have ex : ∃ m, m ≤ 101 ∧ q_fn d R f ≤ m ∧ (0 < (q_its d R m f).1 ∧ q_L3 d R (q_its d R m f) = true) := by
    by_cases c : 0 < (q_red d R f).1
    · exact ⟨q_fn d R f, by omega, Nat.le_refl _, c, fs.2.1⟩
    · have hp : 0 < d := by
        rcases hdc with q | q
        · have := (q_LF_b (Or.inl q) hLF).2.2.2.2.2 q.2.1
          omega
        · exact q.1
      have hs := q_st_lst hdc hp hLF.1 hLF.2.2
      have h1 := (q_LF_its hdc hp hLF 1).1.2.1
      have h1 : (q_st d R (q_red d R f)).1 ≠ 0 := h1
      refine ⟨q_fn d R f + 1, by omega, by omega, ?_, ?_⟩
      · rw [q_its_succ]
        show 0 < (q_st d R (q_red d R f)).1
        omega
      · rw [q_its_succ]
        exact hs.1
  obtain ⟨m0, m1, m2, m3⟩ := ex
  obtain ⟨r, r1, r2⟩ := pk_least (fun m => 0 < (q_its d R m f).1 ∧ q_L3 d R (q_its d R m f) = true) ⟨m0, m3⟩
  have hr : r ≤ 101 := by
    rcases Nat.lt_or_ge m0 r with c | c
    · exact absurd m3 (r2 m0 c)
    · omega
  have hfr : q_fn d R f ≤ r := by
    rcases Nat.lt_or_ge r (q_fn d R f) with c | c
    · have := fs.2.2 r c
      rw [this] at r1
      exact absurd r1.2 (by decide)
    · exact c
  have hGr := q_G_its hdc r f hG
  have hLr : q_LF d R (q_its d R r f) := ⟨hGr.1, hGr.2.1, r1.2⟩
  have hrg : q_rg d R (q_red d R f) (q_its d R r f) := by
    by_cases hp : 0 < d
    · refine Or.inr ⟨hp, r - q_fn d R f, ?_⟩
      unfold q_red
      rw [← q_its_add, show q_fn d R f + (r - q_fn d R f) = r by omega]
    · have hn' : d < 0 := by rcases hdc with q | q <;> omega
      have hpos := ((q_LF_b hdc hLF).2.2.2.2.2 hn').1
      have : r = q_fn d R f := by
        rcases Nat.lt_or_ge (q_fn d R f) r with c | c
        · exact absurd ⟨hpos, fs.2.1⟩ (r2 _ c)
        · omega
      refine Or.inl ⟨hn', ?_⟩
      rw [this]
      rfl
  obtain ⟨x, x1, x2⟩ := isT.2.2 _ hLr r1.1
  have lp := q_lp_mono (p_X0_findLoop (I := z.1) (L := z.2) hg.1 hg.2 hdc r 0 f (by omega) hG r1 r2) (show r + 1 ≤ q_fu by unfold q_fu; omega)
  have lp : q_lp B_X0_find_10 q_fu (0, (z.1, q_v3 z.2 10 f)) = _ := lp
  have ix := p_X0_indexOf (z := (z.1, q_v3 z.2 10 (q_its d R r f))) (x := x) hdc isT hn hT.1 x1
  rw [x2] at ix
  obtain ⟨w0, w1, w2⟩ := q_v3_at z.2 10 (q_its d R r f)
  refine ⟨q_v3 z.2 10 (q_its d R r f), ?_, fun k hk => q_v3_ne hk⟩
  unfold F_X0_find
  rw [p_X1_copy h3, Option.bind_some]
  dsimp only
  rw [lp, Option.bind_some]
  dsimp only
  rw [if_pos rfl]
  unfold T_X0_find_60
  dsimp only
  rw [w0, w1, ix, Option.bind_some]
  dsimp only
  rw [if_neg (by rw [q_i0, q_i_lt ⟨by omega, by omega⟩ (by decide)]; omega), if_pos (by rw [show (128 : Int32) = q_i 128 from rfl, q_i_lt ⟨by omega, by omega⟩ (by decide)]; omega), q_i_toInt ⟨by omega, by omega⟩, if_pos (by omega), q_clamp ⟨by omega, by omega⟩, show ((x : Int)).toNat = x by omega, hT.2.2.1 x x1, x2, q_kls_rg hdc h4 hLF hrg]
/-- what preparing may change -/
def q_CP (z z2 : q_Z) : Prop := (∀ k, k ≠ 3 → k ≠ 5 → k ≠ 6 → k ≠ 7 → k ≠ 8 → k ≠ 9 → z2.1 k = z.1 k) ∧ ∀ k, k ≠ 10 → z2.2 k = z.2 k
theorem p_X0_prepare {d R : Int} {z : q_Z} (hdc : q_dc d R) (h4 : q_d4 d) (hg : q_Cg d R z) (hC : q_Ctab z) : ∃ z2, F_X0_prepare z = some ((), z2) ∧ q_TC d R z2 ∧ z2.1 3 11 = q_i d ∧ q_CP z z2 := by
  have hdb : q_b d := by rcases hdc with q | q <;> exact ⟨by omega, by omega⟩
  have hd0 : d ≠ 0 := by rcases hdc with q | q <;> omega
  unfold F_X0_prepare
  rw [hg.1]
  by_cases c : z.1 3 11 = q_i d
  · refine ⟨z, by rw [if_pos c], ?_, c, fun _ _ _ _ _ _ _ => rfl, fun _ _ => rfl⟩
    rcases hC.1 with h | ⟨d2, R2, a1, a2, a3, a4⟩
    · rw [h, q_i0, q_i_eq (by decide) hdb] at c
      exact absurd c.symm hd0
    · have e : d2 = d := by
        rw [a3, q_i_eq (by rcases a1 with q | q <;> exact ⟨by omega, by omega⟩) hdb] at c
        exact c
      subst e
      rw [q_dc_uni hdc a1]
      exact a4
  · have u : ∀ k, k ≠ 3 → q_u2 z.1 3 11 (q_i d) k = z.1 k := fun k hk => q_u2_ne hk
    obtain ⟨n, T, z1, l1, l2, l3, l4, l5, l6⟩ := p_X0_listLeast (z := (q_u2 z.1 3 11 (q_i d), z.2)) hdc h4 (q_Cg_fr hg (u 4 (by decide)))
    have g1 : q_Cg d R z1 := q_Cg_fr hg ((l4 4 (by decide) (by decide) (by decide) (by decide) (by decide)).trans (u 4 (by decide)))
    obtain ⟨e1, e2⟩ := q_TT_uni hdc h4 l3
    have isT := q_TT_T hdc h4
    have l2' : q_CT (q_TT d R).1 (q_TT d R).2 z1 := by
      rw [← e1]
      refine ⟨l2.1, fun i hi => ?_⟩
      rw [← e2 i hi]
      exact l2.2 i hi
    obtain ⟨z2, n1, n2, n3, n4, n5⟩ := p_X0_numberClasses hdc isT (q_TT_n hdc h4) g1 l2'
    refine ⟨z2, ?_, ⟨n2.1, n2.2.1, ?_, ?_⟩, ?_, ?_, ?_⟩
    · rw [if_neg c, l1, Option.bind_some]
      dsimp only
      rw [n1, Option.bind_some]
    · intro j hj
      exact (n2.2.2.1 j hj).1 (q_hx_spec hdc isT (isT.2.1 j hj).1).1
    · intro k hk
      have s := q_hpl_spec hk
      have := n2.2.2.2 _ s.1 s.2.1
      rw [s.2.2] at this
      exact this
    · rw [n4 11 (by decide), l5 11 (by decide)]
      rfl
    · intro k a1 a2 a3 a5 a6 a7
      rw [n3 k a1 a6 a7, l4 k a1 a2 a3 a5 a6]
      exact u k a1
    · intro k hk
      rw [n5 k hk, l6 k hk]
