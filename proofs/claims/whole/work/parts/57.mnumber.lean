/-! the reference numbers classes -/
theorem p_X10_indexLoop {nt x : Nat} {M : Nat → q_f3} {z : q_Z} (hn : nt ≤ 4000) (hb : ∀ i, i < nt → q_b (M i).1 ∧ q_b (M i).2.1) (hinc : ∀ i j, i < j → j < nt → q_lt (M i) (M j)) (h22 : z.1 128 22 = q_i nt) (hr : ∀ i, i < nt → z.1 134 i = q_i (M i).1 ∧ z.1 135 i = q_i (M i).2.1) (hx : x < nt) : ∀ (r j : Nat), j + r = x → q_lp B_X10_indexOf_3 (r + 1) (q_l (M x).1, q_l (M x).2.1, q_i j, z) = some ((q_l (M x).1, q_l (M x).2.1, q_i x, z), 0) := by
  have pre : ∀ j, j ≤ x → B_X10_indexOf_3 (q_l (M x).1, q_l (M x).2.1, q_i j, z) = if j = x then some ((q_l (M x).1, q_l (M x).2.1, q_i x, z), 1) else some ((q_l (M x).1, q_l (M x).2.1, q_i ((j + 1 : Nat) : Int), z), 0) := by
    intro j hj
    have b1 := hb j (by omega)
    have b2 := hb x hx
    obtain ⟨r4, r5⟩ := hr j (by omega)
    have ca : (q_l (M j).1 = q_l (M x).1) ↔ (M j).1 = (M x).1 := q_l_eq (q_b_B b1.1) (q_b_B b2.1)
    have cb : (q_l (M j).2.1 = q_l (M x).2.1) ↔ (M j).2.1 = (M x).2.1 := q_l_eq (q_b_B b1.2) (q_b_B b2.2)
    simp only [B_X10_indexOf_3, T_X10_indexOf_41]
    rw [if_neg (by rw [h22, q_i_le ⟨by omega, by omega⟩ ⟨by omega, by omega⟩]; omega), q_i_toInt ⟨by omega, by omega⟩, if_pos (by omega), q_clamp ⟨by omega, by omega⟩, show ((j : Int)).toNat = j by omega, r4, r5, q_l_i b1.1, q_l_i b1.2, q_i1, q_i_add, show (j : Int) + 1 = ((j + 1 : Nat) : Int) by omega]
    by_cases c : j = x
    · subst c
      rw [if_pos rfl, if_pos (by omega), if_pos rfl, if_pos rfl]
    · have hne : ¬ ((M j).1 = (M x).1 ∧ (M j).2.1 = (M x).2.1) := by
        have := hinc j x (by omega) hx
        unfold q_lt at this
        omega
      rw [if_neg c]
      by_cases d1 : (M j).1 = (M x).1
      · rw [if_pos (ca.mpr d1), if_pos (by omega), if_neg (fun q => hne ⟨d1, cb.mp q⟩)]
      · rw [if_neg (fun q => d1 (ca.mp q))]
  intro r
  induction r with
  | zero =>
    intro j hj
    have h := pre j (by omega)
    rw [if_pos (by omega)] at h
    exact q_lp_end h
  | succ r ih =>
    intro j hj
    have h := pre j (by omega)
    rw [if_neg (by omega)] at h
    rw [q_lp_go h]
    exact ih (j + 1) (by omega)
theorem p_X10_indexOf {nt x : Nat} {M : Nat → q_f3} {z : q_Z} (hn : nt ≤ 4000) (hb : ∀ i, i < nt → q_b (M i).1 ∧ q_b (M i).2.1) (hinc : ∀ i j, i < j → j < nt → q_lt (M i) (M j)) (h22 : z.1 128 22 = q_i nt) (hr : ∀ i, i < nt → z.1 134 i = q_i (M i).1 ∧ z.1 135 i = q_i (M i).2.1) (hx : x < nt) : F_X10_indexOf z (q_l (M x).1) (q_l (M x).2.1) = some (q_i x, z) := by
  have h := q_lp_mono (p_X10_indexLoop hn hb hinc h22 hr hx x 0 (by omega)) (show x + 1 ≤ q_fu by unfold q_fu; omega)
  have h : q_lp B_X10_indexOf_3 q_fu (q_l (M x).1, q_l (M x).2.1, 0, z) = _ := h
  unfold F_X10_indexOf
  rw [h, Option.bind_some]
  rfl
/-- all of it: those below 0, then the list -/
def q_MM (d R : Int) (nt : Nat) (M : Nat → q_f3) : Prop := nt ≤ 256 ∧ (∀ i j, i < j → j < nt → q_lt (M i) (M j)) ∧ (∀ i, i < nt → q_LF d R (M i)) ∧ ∀ f, q_LF d R f → ∃ i, i < nt ∧ M i = f
theorem q_MM_b {d R : Int} {nt : Nat} {M : Nat → q_f3} (hdc : q_dc d R) (h : q_MM d R nt M) : ∀ i, i < nt → q_b (M i).1 ∧ q_b (M i).2.1 := by
  intro i hi
  have := q_LF_b hdc (h.2.2.1 i hi)
  exact ⟨⟨by omega, by omega⟩, ⟨by omega, by omega⟩⟩
theorem q_MM_eq {d R : Int} {nt i j : Nat} {M : Nat → q_f3} (h : q_MM d R nt M) (hi : i < nt) (hj : j < nt) (e : M i = M j) : i = j := by
  rcases Nat.lt_trichotomy i j with c | c | c
  · have := h.2.1 i j c hj; rw [e] at this; exact absurd this q_lt_irr
  · exact c
  · have := h.2.1 j i c hi; rw [e] at this; exact absurd this q_lt_irr
theorem p_X10_isFormLF {d R : Int} {z : q_Z} {f : q_f3} (hdc : q_dc d R) (hg : q_Mg d R z) (hf : q_LF d R f) : F_X10_isForm z (q_l f.1) (q_l f.2.1) = some (1, (z.1, q_w7 z.2 f (z.2 128 15, z.2 128 16, z.2 128 17, z.2 128 18))) := by
  have hdb : -4000 ≤ d ∧ d ≤ 4000 := by rcases hdc with q | q <;> omega
  have hb := q_LF_b hdc hf
  obtain ⟨a, b, c⟩ := f
  have hb : -63 ≤ a ∧ a ≤ 63 ∧ -63 ≤ b ∧ b ≤ 63 := ⟨hb.1, hb.2.1, hb.2.2.1, hb.2.2.2.1⟩
  have h1 : q_fm d a b c := hf.1
  have e := p_X10_isForm_yes (z := z) (a := a) (b := b) (c := c) hg.1 hdb ⟨by omega, by omega⟩ ⟨by omega, by omega⟩ h1.2.1 (fun q => by have := (h1.2.2.2 q.1).1; omega) (by have := h1.1; omega)
  have g : Int.gcd (Int.gcd a b) c = 1 := hf.2.1
  rw [if_pos g] at e
  have e2 := q_w7_take z.2 (a, b, c)
  rw [← e2]
  exact e
/-- one form of a ring is marked -/
theorem p_X10_mark1 {d R : Int} {nt y x : Nat} {M : Nat → q_f3} {I : Nat → Nat → Int32} {L : Nat → Nat → Int64} {l3 : Int32} (hdc : q_dc d R) (hM : q_MM d R nt M) (hg : q_Mg d R (I, L)) (h22 : I 128 22 = q_i nt) (hr : ∀ i, i < nt → I 134 i = q_i (M i).1 ∧ I 135 i = q_i (M i).2.1) (hx : x < nt) (h8 : I 136 x = -1) (hy : y < nt) (hxy : M y = if 0 < d then q_st d R (M x) else M x) : ∃ L2, B_X10_becomes_206 (l3, q_i x, (I, L)) = some ((l3, q_i y, (q_u2 I 136 x (I 128 23), L2)), 0) ∧ ∀ k, k ≠ 128 → L2 k = L k := by
  have hdb : q_b d := by rcases hdc with q | q <;> exact ⟨by omega, by omega⟩
  have hb := q_MM_b hdc hM
  have u : ∀ k, k ≠ 136 → q_u2 I 136 x (I 128 23) k = I k := fun k hk => q_u2_ne hk
  obtain ⟨r4, r5⟩ := hr x hx
  have bx := hb x hx
  have hLx := hM.2.2.1 x hx
  have hle := hM.1
  have ei : Int32.toInt (q_i (x : Int)) = x := q_i_toInt ⟨by omega, by omega⟩
  have ec : Int32.toNatClampNeg (q_i (x : Int)) = x := by rw [q_clamp ⟨by omega, by omega⟩]; omega
  have hg2 : ∀ L', q_Mg d R (q_u2 I 136 x (I 128 23), L') := fun L' => ⟨(congrFun (u 128 (by decide)) 0).trans hg.1, (congrFun (u 128 (by decide)) 1).trans hg.2⟩
  have isf := p_X10_isFormLF (z := (q_u2 I 136 x (I 128 23), L)) hdc (hg2 L) hLx
  have ix : ∀ L', F_X10_indexOf (q_u2 I 136 x (I 128 23), L') (q_l (M y).1) (q_l (M y).2.1) = some (q_i y, (q_u2 I 136 x (I 128 23), L')) := by
    intro L'
    refine p_X10_indexOf (z := (q_u2 I 136 x (I 128 23), L')) (by omega) hb hM.2.1 ?_ ?_ hy
    · exact (congrFun (u 128 (by decide)) 22).trans h22
    · intro i hi
      show q_u2 I 136 x (I 128 23) 134 i = _ ∧ q_u2 I 136 x (I 128 23) 135 i = _
      rw [u 134 (by decide), u 135 (by decide)]
      exact hr i hi
  have hd0 : q_u2 I 136 x (I 128 23) 128 0 = q_i d := (hg2 L).1
  have sd : ∀ o : Option ((Int32 × Int32 × q_Z) × Nat), (F_X10_isForm (q_u2 I 136 x (I 128 23), L) (Int32.toInt64 (I 134 x)) (Int32.toInt64 (I 135 x))).bind (fun (r23, z24) => if (z24.1 128 0) ≤ (0 : Int32) then T_X10_becomes_261 z24 l3 else (F_X10_steps z24).bind fun (_, z29) => T_X10_becomes_261 z29 l3) = o → B_X10_becomes_206 (l3, q_i x, (I, L)) = o := by
    intro o h
    rw [← h]
    simp only [B_X10_becomes_206]
    rw [ei, ec, if_pos (by omega), if_pos h8, if_pos (by omega)]
  by_cases hp : 0 < d
  · rw [if_pos hp] at hxy
    have st := p_X10_steps7 (I := q_u2 I 136 x (I 128 23)) (L := L) (f := M x) (w := (L 128 15, L 128 16, L 128 17, L 128 18)) (hg2 L).1 (hg2 L).2 hdc hLx.1 (q_G_s3 (q_LF_G hdc hLx))
    rw [← hxy] at st
    refine ⟨q_w7 L (M y) (q_wst (q_tt2 d R (M x).2.1 (M x).2.2) (L 128 15, L 128 16, L 128 17, L 128 18)), sd _ ?_, fun k hk => q_w7_ne hk⟩
    rw [r4, r5, q_l_i bx.1, q_l_i bx.2, isf, Option.bind_some]
    dsimp only
    rw [if_neg (by rw [hd0, q_i0, q_i_le hdb (by decide)]; omega), st, Option.bind_some]
    dsimp only
    unfold T_X10_becomes_261
    show (F_X10_indexOf _ (q_l (M y).1) (q_l (M y).2.1)).bind _ = _
    rw [ix, Option.bind_some]
  · rw [if_neg hp] at hxy
    have exy : x = y := (q_MM_eq hM hy hx hxy).symm
    subst exy
    refine ⟨q_w7 L (M x) (L 128 15, L 128 16, L 128 17, L 128 18), sd _ ?_, fun k hk => q_w7_ne hk⟩
    rw [r4, r5, q_l_i bx.1, q_l_i bx.2, isf, Option.bind_some]
    dsimp only
    rw [if_pos (by rw [hd0, q_i0, q_i_le hdb (by decide)]; omega)]
    unfold T_X10_becomes_261
    show (F_X10_indexOf _ (q_l (M x).1) (q_l (M x).2.1)).bind _ = _
    rw [ix, Option.bind_some]
/-- a whole ring is marked -/
theorem p_X10_markAll {d R : Int} {nt x : Nat} {M : Nat → q_f3} {I : Nat → Nat → Int32} {L : Nat → Nat → Int64} {l3 : Int32} (hdc : q_dc d R) (hM : q_MM d R nt M) (hg : q_Mg d R (I, L)) (h22 : I 128 22 = q_i nt) (hr : ∀ i, i < nt → I 134 i = q_i (M i).1 ∧ I 135 i = q_i (M i).2.1) (hx : x < nt) (h23 : I 128 23 ≠ -1) (h8 : ∀ j, j < nt → q_rg d R (M x) (M j) → I 136 j = -1) : ∃ w I2 L2, q_lp B_X10_becomes_206 q_fu (l3, q_i x, (I, L)) = some ((l3, w, (I2, L2)), 0) ∧ (∀ j, j < nt → (q_rg d R (M x) (M j) → I2 136 j = I 128 23) ∧ (¬ q_rg d R (M x) (M j) → I2 136 j = I 136 j)) ∧ (∀ k, k ≠ 136 → I2 k = I k) ∧ ∀ k, k ≠ 128 → L2 k = L k := by
  have hle := hM.1
  have hLx := hM.2.2.1 x hx
  have stop : ∀ (y : Nat) (I' : Nat → Nat → Int32) (L' : Nat → Nat → Int64), y < nt → I' 136 y ≠ -1 → B_X10_becomes_206 (l3, q_i y, (I', L')) = some ((l3, q_i y, (I', L')), 1) := by
    intro y I' L' hy h
    simp only [B_X10_becomes_206]
    rw [q_i_toInt ⟨by omega, by omega⟩, q_clamp ⟨by omega, by omega⟩, show ((y : Int)).toNat = y by omega, if_pos (by omega), if_neg h]
  by_cases hp : 0 < d
  · obtain ⟨m, m0, m1, m2, m3⟩ := q_ring hdc hp hLx.1 hLx.2.2
    have loop : ∀ (r t y : Nat) (I' : Nat → Nat → Int32) (L' : Nat → Nat → Int64), t + r = m → y < nt → M y = q_its d R t (M x) → (∀ k, k ≠ 136 → I' k = I k) → (∀ k, k ≠ 128 → L' k = L k) → (∀ j, j < nt → ((∃ s, s < t ∧ M j = q_its d R s (M x)) → I' 136 j = I 128 23) ∧ ((¬ ∃ s, s < t ∧ M j = q_its d R s (M x)) → I' 136 j = I 136 j)) → ∃ w I2 L2, q_lp B_X10_becomes_206 (r + 1) (l3, q_i y, (I', L')) = some ((l3, w, (I2, L2)), 0) ∧ (∀ j, j < nt → ((∃ s, s < m ∧ M j = q_its d R s (M x)) → I2 136 j = I 128 23) ∧ ((¬ ∃ s, s < m ∧ M j = q_its d R s (M x)) → I2 136 j = I 136 j)) ∧ (∀ k, k ≠ 136 → I2 k = I k) ∧ ∀ k, k ≠ 128 → L2 k = L k := by
      intro r
      induction r with
      | zero =>
        intro t y I' L' ht hy hy2 hI hL hm
        have e : t = m := by omega
        subst e
        rw [m2] at hy2
        refine ⟨_, I', L', q_lp_end (stop y I' L' hy ?_), hm, hI, hL⟩
        rw [(hm y hy).1 ⟨0, m0, hy2⟩]
        exact h23
      | succ r ih =>
        intro t y I' L' ht hy hy2 hI hL hm
        have nw : ¬ ∃ s, s < t ∧ M y = q_its d R s (M x) := by
          intro ⟨s, s1, s2⟩
          rw [hy2, show t = (t - s) + s by omega, q_its_add] at s2
          have := q_its_inj hdc hp s _ _ (q_F3_its hdc (t - s) _ hLx.1) hLx.1 (q_LF_its hdc hp hLx (t - s)).2.2 hLx.2.2 s2
          exact m3 (t - s) (by omega) (by omega) this
        have hy8 : I' 136 y = -1 := by
          rw [(hm y hy).2 nw]
          exact h8 y hy (Or.inr ⟨hp, t, hy2.symm⟩)
        obtain ⟨y', y1, y2⟩ := hM.2.2.2 _ (q_LF_its hdc hp hLx (t + 1))
        obtain ⟨L2, s1, s2⟩ := p_X10_mark1 (l3 := l3) (I := I') (L := L') (x := y) (y := y') hdc hM ⟨(congrFun (hI 128 (by decide)) 0).trans hg.1, (congrFun (hI 128 (by decide)) 1).trans hg.2⟩ ((congrFun (hI 128 (by decide)) 22).trans h22) (by rw [hI 134 (by decide), hI 135 (by decide)]; exact hr) hy hy8 y1 (by rw [if_pos hp, hy2, ← q_its_succ]; exact y2)
        have v : I' 128 23 = I 128 23 := congrFun (hI 128 (by decide)) 23
        rw [v] at s1
        rw [q_lp_go s1]
        refine ih (t + 1) y' (q_u2 I' 136 y (I 128 23)) L2 (by omega) y1 y2 (fun k hk => by rw [q_u2_ne hk]; exact hI k hk) (fun k hk => (s2 k hk).trans (hL k hk)) ?_
        intro j hj
        rw [q_u2_at]
        by_cases cj : j = y
        · rw [if_pos cj]
          exact ⟨fun _ => rfl, fun h => absurd ⟨t, by omega, by rw [cj]; exact hy2⟩ h⟩
        · rw [if_neg cj]
          refine ⟨fun ⟨s, a1, a2⟩ => ?_, fun h => (hm j hj).2 fun ⟨s, a1, a2⟩ => h ⟨s, by omega, a2⟩⟩
          by_cases cs : s = t
          · rw [cs, ← hy2] at a2
            exact absurd (q_MM_eq hM hj hy a2) cj
          · exact (hm j hj).1 ⟨s, by omega, a2⟩
    obtain ⟨w, I2, L2, g1, g2, g3, g4⟩ := loop m 0 x I L (by omega) hx rfl (fun _ _ => rfl) (fun _ _ => rfl) (fun j hj => ⟨fun ⟨s, a, _⟩ => absurd a (Nat.not_lt_zero s), fun _ => rfl⟩)
    refine ⟨w, I2, L2, q_lp_mono g1 (by unfold q_fu; omega), ?_, g3, g4⟩
    intro j hj
    have hrg : q_rg d R (M x) (M j) ↔ ∃ s, s < m ∧ M j = q_its d R s (M x) := by
      refine ⟨fun h => ?_, fun ⟨s, _, a⟩ => Or.inr ⟨hp, s, a.symm⟩⟩
      rcases h with ⟨q, _⟩ | ⟨_, n, hn⟩
      · omega
      · refine ⟨n % m, Nat.mod_lt _ m0, ?_⟩
        have e := Nat.div_add_mod n m
        rw [← hn]
        conv => lhs; rw [← e, q_its_add, q_its_mul m2]
    exact ⟨fun h => (g2 j hj).1 (hrg.mp h), fun h => (g2 j hj).2 (fun q => h (hrg.mpr q))⟩
  · have hn' : d < 0 := by rcases hdc with q | q <;> omega
    obtain ⟨L2, s1, s2⟩ := p_X10_mark1 (l3 := l3) (I := I) (L := L) (x := x) (y := x) hdc hM hg h22 hr hx (h8 x hx (q_rg_rfl hdc _)) hx (by rw [if_neg hp])
    have s3 := stop x (q_u2 I 136 x (I 128 23)) L2 hx (by rw [q_u2_at, if_pos rfl]; exact h23)
    refine ⟨_, _, L2, q_lp_mono ((q_lp_go (n := 1) s1).trans (q_lp_end (n := 0) s3)) (by decide), ?_, fun k hk => q_u2_ne hk, s2⟩
    intro j hj
    rw [q_u2_at]
    refine ⟨fun h => ?_, fun h => ?_⟩
    · rcases h with ⟨_, e⟩ | ⟨q, _⟩
      · rw [if_pos (q_MM_eq hM hj hx e.symm)]
      · omega
    · rw [if_neg (fun e => h (by rw [e]; exact q_rg_rfl hdc _))]

/-- while classes are numbered -/
def q_MN (d R : Int) (n N : Nat) (T M : Nat → q_f3) (i : Nat) (z : q_Z) : Prop := z.1 128 22 = q_i ((N + n : Nat) : Int) ∧ (∀ k, k < N + n → z.1 134 k = q_i (M k).1 ∧ z.1 135 k = q_i (M k).2.1) ∧ z.1 128 23 = q_i (q_hn d R T i) ∧ (∀ k, k < N + n → (q_hx d R T (M k) < i → z.1 136 k = q_i (q_hn d R T (q_hx d R T (M k)))) ∧ (i ≤ q_hx d R T (M k) → z.1 136 k = -1)) ∧ ∀ j, j < i → q_hx d R T (T j) = j → z.1 137 (q_hn d R T j) = q_i (T j).1 ∧ z.1 138 (q_hn d R T j) = q_i (T j).2.1
def q_MQ (z z2 : q_Z) : Prop := (∀ k, k ≠ 128 → k ≠ 136 → k ≠ 137 → k ≠ 138 → z2.1 k = z.1 k) ∧ (∀ k, k ≠ 23 → z2.1 128 k = z.1 128 k) ∧ ∀ k, k ≠ 128 → z2.2 k = z.2 k
theorem q_MQ_rfl (z : q_Z) : q_MQ z z := ⟨fun _ _ _ _ _ => rfl, fun _ _ => rfl, fun _ _ => rfl⟩
theorem q_MQ_trans {x y z : q_Z} (h1 : q_MQ x y) (h2 : q_MQ y z) : q_MQ x z := ⟨fun k a b c e => (h2.1 k a b c e).trans (h1.1 k a b c e), fun k a => (h2.2.1 k a).trans (h1.2.1 k a), fun k a => (h2.2.2 k a).trans (h1.2.2 k a)⟩
theorem p_X10_numStep {d R : Int} {n N i : Nat} {T M : Nat → q_f3} {z : q_Z} (hdc : q_dc d R) (hT : q_isT d R n T) (hn : n ≤ 128) (hM : q_MM d R (N + n) M) (hMT : ∀ i, i < n → M (N + i) = T i) (hi : i < n) (hg : q_Mg d R z) (hN : q_MN d R n N T M i z) : ∃ z2, B_X10_becomes_143 (q_i ((N + i : Nat) : Int), z) = some ((q_i ((N + i + 1 : Nat) : Int), z2), 0) ∧ q_MN d R n N T M (i + 1) z2 ∧ q_MQ z z2 := by
  obtain ⟨h22, hr, h23, h36, h37⟩ := hN
  have hle := hM.1
  have hxi := q_hx_le hdc hT hi
  have hhn : q_hn d R T i ≤ i := q_hn_le i
  have hb := q_MM_b hdc hM (N + i) (by omega)
  have hLi := (hT.2.1 i hi).1
  have hpi := (hT.2.1 i hi).2
  have eM := hMT i hi
  obtain ⟨r4, r5⟩ := hr (N + i) (by omega)
  have ei : Int32.toInt (q_i ((N + i : Nat) : Int)) = ((N + i : Nat) : Int) := q_i_toInt ⟨by omega, by omega⟩
  have ec : Int32.toNatClampNeg (q_i ((N + i : Nat) : Int)) = N + i := by rw [q_clamp ⟨by omega, by omega⟩]; omega
  have h6 := h36 (N + i) (by omega)
  rw [eM] at h6 r4 r5
  simp only [B_X10_becomes_143, T_X10_becomes_288]
  rw [if_neg (by rw [h22, q_i_le ⟨by omega, by omega⟩ ⟨by omega, by omega⟩]; omega), ei, ec, if_pos (by omega), if_neg (by rw [r4, q_i0, q_i_lt (by rw [← eM]; exact hb.1) (by decide)]; omega), if_pos (by omega)]
  by_cases c : q_hx d R T (T i) = i
  · have e8 := h6.2 (by omega)
    have u : ∀ k, k ≠ 137 → k ≠ 138 → q_u2 (q_u2 z.1 137 (q_hn d R T i) (q_i (T i).1)) 138 (q_hn d R T i) (q_i (T i).2.1) k = z.1 k := fun k a b => by rw [q_u2_ne b, q_u2_ne a]
    have hne1 : q_i (q_hn d R T i : Int) ≠ -1 := by
      rw [show (-1 : Int32) = q_i (-1) from rfl]
      intro q
      rw [q_i_eq ⟨by omega, by omega⟩ (by decide)] at q
      omega
    have hrx : ∀ k, k < N + n → (q_rg d R (M (N + i)) (M k) ↔ q_hx d R T (M k) = i) := by
      intro k hk
      have hLk := hM.2.2.1 k hk
      rw [eM]
      refine ⟨fun h => by rw [q_hx_rg hdc hT hLi h]; exact c, fun h => q_hx_eq hdc hT hLi hLk (by rw [c, h])⟩
    obtain ⟨w, I2, L2, a1, a2, a3, a4⟩ := p_X10_markAll (l3 := q_i ((N + i : Nat) : Int)) (I := q_u2 (q_u2 z.1 137 (q_hn d R T i) (q_i (T i).1)) 138 (q_hn d R T i) (q_i (T i).2.1)) (L := z.2) (x := N + i) hdc hM ⟨(congrFun (u 128 (by decide) (by decide)) 0).trans hg.1, (congrFun (u 128 (by decide) (by decide)) 1).trans hg.2⟩ ((congrFun (u 128 (by decide) (by decide)) 22).trans h22) (by rw [u 134 (by decide) (by decide), u 135 (by decide) (by decide)]; exact hr) (by omega) (by rw [u 128 (by decide) (by decide), h23]; exact hne1) (by
      intro j hj hq
      rw [u 136 (by decide) (by decide)]
      exact (h36 j hj).2 (by rw [(hrx j hj).mp hq]; exact Nat.le_refl _))
    have i23 : I2 128 23 = q_i (q_hn d R T i) := by rw [a3 128 (by decide), u 128 (by decide) (by decide)]; exact h23
    have v : ∀ k, k ≠ 136 → k ≠ 137 → k ≠ 138 → I2 k = z.1 k := fun k p q r => (a3 k p).trans (u k q r)
    have x8 : ∀ k, k ≠ 128 → q_u2 I2 128 23 (q_i ((q_hn d R T i + 1 : Nat) : Int)) k = I2 k := fun k hk => q_u2_ne hk
    have x9 : ∀ k, k ≠ 23 → q_u2 I2 128 23 (q_i ((q_hn d R T i + 1 : Nat) : Int)) 128 k = z.1 128 k := by
      intro k hk
      rw [q_u2_at, if_neg hk, v 128 (by decide) (by decide) (by decide)]
    refine ⟨(q_u2 I2 128 23 (q_i ((q_hn d R T i + 1 : Nat) : Int)), L2), ?_, ⟨?_, ?_, ?_, ?_, ?_⟩, ?_, x9, a4⟩
    · rw [if_pos e8, if_pos (by omega), if_pos (by rw [h23, q_i_toInt ⟨by omega, by omega⟩]; omega), h23, q_clamp ⟨by omega, by omega⟩, show ((q_hn d R T i : Nat) : Int).toNat = q_hn d R T i by omega, r4, r5, a1, Option.bind_some]
      dsimp only
      rw [if_pos rfl, i23, q_i1, q_i_add, q_i_add, show (q_hn d R T i : Int) + 1 = ((q_hn d R T i + 1 : Nat) : Int) by omega, show ((N + i : Nat) : Int) + 1 = ((N + i + 1 : Nat) : Int) by omega]
    · exact (x9 22 (by decide)).trans h22
    · intro k hk
      show q_u2 I2 128 23 (q_i ((q_hn d R T i + 1 : Nat) : Int)) 134 k = _ ∧ q_u2 I2 128 23 (q_i ((q_hn d R T i + 1 : Nat) : Int)) 135 k = _
      rw [x8 134 (by decide), x8 135 (by decide), v 134 (by decide) (by decide) (by decide), v 135 (by decide) (by decide) (by decide)]
      exact hr k hk
    · rw [q_hn_yes c]
      rfl
    · intro k hk
      show (_ → q_u2 I2 128 23 (q_i ((q_hn d R T i + 1 : Nat) : Int)) 136 k = _) ∧ (_ → q_u2 I2 128 23 (q_i ((q_hn d R T i + 1 : Nat) : Int)) 136 k = _)
      rw [x8 136 (by decide)]
      have hm := a2 k hk
      rw [u 128 (by decide) (by decide), u 136 (by decide) (by decide), h23] at hm
      refine ⟨fun h => ?_, fun h => ?_⟩
      · by_cases e : q_hx d R T (M k) = i
        · rw [hm.1 ((hrx k hk).mpr e), e]
        · rw [hm.2 (fun q => e ((hrx k hk).mp q))]
          exact (h36 k hk).1 (by omega)
      · rw [hm.2 (fun q => by have := (hrx k hk).mp q; omega)]
        exact (h36 k hk).2 (by omega)
    · intro j hj hjj
      show q_u2 I2 128 23 (q_i ((q_hn d R T i + 1 : Nat) : Int)) 137 _ = _ ∧ q_u2 I2 128 23 (q_i ((q_hn d R T i + 1 : Nat) : Int)) 138 _ = _
      rw [x8 137 (by decide), x8 138 (by decide), a3 137 (by decide), a3 138 (by decide), q_u2_at, q_u2_ne (show 137 ≠ 138 by decide), q_u2_at]
      by_cases e : j = i
      · rw [e, if_pos rfl, if_pos rfl]
        exact ⟨rfl, rfl⟩
      · have hne : q_hn d R T j ≠ q_hn d R T i := fun q => e (q_hn_inj hjj c q)
        rw [if_neg hne, if_neg hne, q_u2_ne (show 138 ≠ 137 by decide)]
        exact h37 j (by omega) hjj
    · intro k p q r t
      show q_u2 I2 128 23 (q_i ((q_hn d R T i + 1 : Nat) : Int)) k = z.1 k
      rw [x8 k p, v k q r t]
  · have e8 := h6.1 (by omega)
    have hb2 : q_hn d R T (q_hx d R T (T i)) ≤ 128 := Nat.le_trans (q_hn_le _) (by omega)
    refine ⟨z, ?_, ⟨h22, hr, ?_, ?_, ?_⟩, q_MQ_rfl z⟩
    · rw [if_neg (by rw [e8, show (-1 : Int32) = q_i (-1) from rfl, q_i_eq ⟨by omega, by omega⟩ (by decide)]; omega), q_i1, q_i_add, show ((N + i : Nat) : Int) + 1 = ((N + i + 1 : Nat) : Int) by omega]
    · rw [q_hn_no c]
      exact h23
    · intro k hk
      have hne : q_hx d R T (M k) ≠ i := by
        intro e
        have := q_hx_hx hdc hT (hM.2.2.1 k hk)
        rw [e] at this
        exact c this
      exact ⟨fun h => (h36 k hk).1 (by omega), fun h => (h36 k hk).2 (by omega)⟩
    · intro j hj hjj
      have hne : j ≠ i := by
        intro e
        rw [e] at hjj
        exact c hjj
      exact h37 j (by omega) hjj
theorem p_X10_numLoop {d R : Int} {n N : Nat} {T M : Nat → q_f3} (hdc : q_dc d R) (hT : q_isT d R n T) (hn : n ≤ 128) (hM : q_MM d R (N + n) M) (hMT : ∀ i, i < n → M (N + i) = T i) (hneg : ∀ i, i < N → (M i).1 < 0) : ∀ (r k : Nat) (z : q_Z), k + r = N + n → q_Mg d R z → q_MN d R n N T M (k - N) z → ∃ z2, q_lp B_X10_becomes_143 (r + 1) (q_i k, z) = some ((q_i ((N + n : Nat) : Int), z2), 0) ∧ q_MN d R n N T M n z2 ∧ q_MQ z z2 := by
  have hle := hM.1
  intro r
  induction r with
  | zero =>
    intro k z hk hg hN
    have e : k = N + n := by omega
    subst e
    rw [show N + n - N = n by omega] at hN
    refine ⟨z, q_lp_end ?_, hN, q_MQ_rfl z⟩
    simp only [B_X10_becomes_143]
    rw [if_pos (by rw [hN.1]; exact (q_i_le ⟨by omega, by omega⟩ ⟨by omega, by omega⟩).mpr (Int.le_refl _))]
  | succ r ih =>
    intro k z hk hg hN
    by_cases c : k < N
    · have hb : B_X10_becomes_143 (q_i k, z) = some ((q_i ((k + 1 : Nat) : Int), z), 0) := by
        have bk := q_MM_b hdc hM k (by omega)
        simp only [B_X10_becomes_143, T_X10_becomes_288]
        rw [if_neg (by rw [hN.1, q_i_le ⟨by omega, by omega⟩ ⟨by omega, by omega⟩]; omega), q_i_toInt ⟨by omega, by omega⟩, q_clamp ⟨by omega, by omega⟩, show ((k : Int)).toNat = k by omega, if_pos (by omega), if_pos (by rw [(hN.2.1 k (by omega)).1, q_i0, q_i_lt bk.1 (by decide)]; exact hneg k c), q_i1, q_i_add]
        rfl
      obtain ⟨z2, g1, g2, g3⟩ := ih (k + 1) z (by omega) hg (by rw [show k + 1 - N = k - N by omega]; exact hN)
      exact ⟨z2, by rw [q_lp_go hb]; exact g1, g2, g3⟩
    · obtain ⟨i, rfl⟩ : ∃ i, k = N + i := ⟨k - N, by omega⟩
      rw [show N + i - N = i by omega] at hN
      obtain ⟨z1, s1, s2, s3⟩ := p_X10_numStep hdc hT hn hM hMT (by omega) hg hN
      obtain ⟨z2, g1, g2, g3⟩ := ih (N + i + 1) z1 (by omega) (q_Mg_fr hg (s3.2.1 0 (by decide)) (s3.2.1 1 (by decide))) (by rw [show N + i + 1 - N = i + 1 by omega]; exact s2)
      exact ⟨z2, by rw [q_lp_go s1]; exact g1, g2, q_MQ_trans s3 g3⟩
