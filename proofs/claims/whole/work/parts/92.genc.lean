/-! genera: the class -/
theorem p_X3_sq1 {d R : Int} (hdc : q_dc d R) (h4 : q_d4 d) : ∀ (r i len : Nat) (ch : Nat → Nat) (z : q_Z), i + r = q_nc2 d R → q_Cg d R z → q_TC d R z → len ≤ i → (∀ k, k < len → z.1 15 k = q_i (ch k) ∧ ch k < q_nc2 d R) → (∀ c, (∃ k, k < len ∧ c = ch k) ↔ ∃ j, j < i ∧ c = q_J d R j j) → (∀ c, c < q_nc2 d R → ((∃ k, k < len ∧ c = ch k) → z.1 14 c = 0) ∧ ((¬ ∃ k, k < len ∧ c = ch k) → z.1 14 c = -1)) → ∃ (len2 : Nat) (ch2 : Nat → Nat) (z2 : q_Z), q_lp B_X3_listSquares_4 (r + 1) (q_i len, q_i i, z) = some ((q_i ((len2 : Nat) : Int), q_i (q_nc2 d R), z2), 0) ∧ len2 ≤ q_nc2 d R ∧ (∀ k, k < len2 → z2.1 15 k = q_i ((ch2 k : Nat) : Int) ∧ ch2 k < q_nc2 d R) ∧ (∀ c, (∃ k, k < len2 ∧ c = ch2 k) ↔ ∃ j, j < q_nc2 d R ∧ c = q_J d R j j) ∧ (∀ c, c < q_nc2 d R → ((∃ k, k < len2 ∧ c = ch2 k) → z2.1 14 c = 0) ∧ ((¬ ∃ k, k < len2 ∧ c = ch2 k) → z2.1 14 c = -1)) ∧ q_fz (fun n => n = 14 ∨ n = 15) z z2 := by
  have hn := q_nc2_le hdc h4
  intro r
  induction r with
  | zero =>
    intro i len ch z hi hg hT hl hc hs hm
    have e : i = q_nc2 d R := by omega
    subst e
    refine ⟨len, ch, z, q_lp_end ?_, hl, hc, hs, hm, q_fz_rfl _ z⟩
    simp only [B_X3_listSquares_4]
    by_cases c : (128 : Int32) ≤ q_i (q_nc2 d R)
    · rw [if_pos c]
    · rw [if_neg c, hT.2.1, if_pos (by rw [q_nle (by omega) (by omega)]; omega)]
  | succ r ih =>
    intro i len ch z hi hg hT hl hc hs hm
    have hi1 : i < q_nc2 d R := by omega
    have hJ := q_J_lt hdc h4 hi1 hi1
    obtain ⟨z1, a1, a2, a3⟩ := q_J_Xz hdc h4 hg hT hi1 hi1
    have hT1 := q_TC_fz hT a2 (fun _ q => q.elim)
    have hg1 := q_Cg_fz hg a2 (fun _ q => q.elim)
    have hcl : (0 : Int) ≤ ((q_J d R i i : Nat) : Int) ∧ ((q_J d R i i : Nat) : Int) < ((q_nc2 d R : Nat) : Int) := by omega
    have start : ∀ X, (if (z1.1 14 (q_J d R i i)) = (-1 : Int32) then (if (128 : Int32) ≤ q_i (len : Int) then T_X3_listSquares_77 z1 (q_i len) (q_i i) else (if 0 ≤ Int32.toInt (q_i (len : Int)) ∧ Int32.toInt (q_i (len : Int)) < 128 then T_X3_listSquares_77 (q_u2 (q_u2 z1.1 14 (q_J d R i i) 0) 15 (Int32.toNatClampNeg (q_i (len : Int))) (q_i (q_J d R i i)), z1.2) (q_i (len : Int) + 1) (q_i i) else none)) else T_X3_listSquares_77 z1 (q_i len) (q_i i)) = X → B_X3_listSquares_4 (q_i len, q_i i, z) = X := by
      intro X hX
      simp only [B_X3_listSquares_4]
      rw [if_neg (by rw [show (128 : Int32) = q_i ((128 : Nat) : Int) from rfl, q_nle (by omega) (by omega)]; omega), hT.2.1, if_neg (by rw [q_nle (by omega) (by omega)]; omega), a1, Option.bind_some]
      dsimp only
      rw [p_X0_hasClass hdc h4 hT1 ⟨by omega, by omega⟩, Option.bind_some, if_pos hcl]
      dsimp only
      rw [if_neg (by decide), q_nti (a := q_J d R i i) (by omega), if_pos (show (0 : Int) ≤ ((q_J d R i i : Nat) : Int) ∧ ((q_J d R i i : Nat) : Int) < 128 by omega), q_ncl (a := q_J d R i i) (by omega), if_pos (show (0 : Int) ≤ ((q_J d R i i : Nat) : Int) ∧ ((q_J d R i i : Nat) : Int) < 128 by omega)]
      exact hX
    by_cases c : ∃ k, k < len ∧ q_J d R i i = ch k
    · obtain ⟨len2, ch2, z2, b1, b2, b3, b4, b5, b6⟩ := ih (i + 1) len ch z1 (by omega) hg1 hT1 (by omega) (by rw [a3]; exact hc) (by
        intro c0
        rw [hs c0]
        refine ⟨fun ⟨j, j1, j2⟩ => ⟨j, by omega, j2⟩, fun ⟨j, j1, j2⟩ => ?_⟩
        by_cases ej : j = i
        · rw [ej] at j2
          rw [j2]
          exact (hs _).mp c
        · exact ⟨j, by omega, j2⟩) (by rw [a3]; exact hm)
      refine ⟨len2, ch2, z2, ?_, b2, b3, b4, b5, q_fz_trans a2 b6 (fun _ q => q.elim) (fun _ q => q)⟩
      rw [q_lp_go (s1 := (q_i len, q_i ((i + 1 : Nat) : Int), z1))]
      · exact b1
      · refine start _ ?_
        rw [if_neg (by rw [a3, (hm _ hJ).1 c]; decide)]
        unfold T_X3_listSquares_77
        rw [q_nsu]
    · have f1 : q_fz (fun n => n = 14 ∨ n = 15) z (q_u2 (q_u2 z1.1 14 (q_J d R i i) 0) 15 len (q_i (q_J d R i i)), z1.2) := q_fz_trans a2 (q_fz_trans (q_fz_u (P := fun n => n = 14 ∨ n = 15) z1 (k := q_J d R i i) 0 (Or.inl rfl)) (q_fz_u (P := fun n => n = 14 ∨ n = 15) (q_u2 z1.1 14 (q_J d R i i) 0, z1.2) (k := len) (q_i (q_J d R i i)) (Or.inr rfl)) (fun _ q => q) (fun _ q => q)) (fun _ q => q.elim) (fun _ q => q)
      obtain ⟨len2, ch2, z2, b1, b2, b3, b4, b5, b6⟩ := ih (i + 1) (len + 1) (fun k => if k = len then q_J d R i i else ch k) (q_u2 (q_u2 z1.1 14 (q_J d R i i) 0) 15 len (q_i (q_J d R i i)), z1.2) (by omega) (q_Cg_fz hg f1 (fun n hn => by omega)) (q_TC_fz hT f1 (fun n hn => by omega)) (by omega) (by
        intro k hk
        show q_u2 (q_u2 z1.1 14 (q_J d R i i) 0) 15 len (q_i (q_J d R i i)) 15 k = q_i ((if k = len then q_J d R i i else ch k : Nat) : Int) ∧ (if k = len then q_J d R i i else ch k) < q_nc2 d R
        rw [q_u2_at]
        by_cases ek : k = len
        · rw [if_pos ek, if_pos ek]
          exact ⟨rfl, hJ⟩
        · rw [if_neg ek, if_neg ek, q_u2_ne (by decide), a3]
          exact hc k (by omega)) (by
        intro c0
        refine ⟨fun ⟨k, k1, k2⟩ => ?_, fun ⟨j, j1, j2⟩ => ?_⟩
        · by_cases ek : k = len
          · rw [if_pos ek] at k2
            exact ⟨i, by omega, k2⟩
          · rw [if_neg ek] at k2
            obtain ⟨j, j1, j2⟩ := (hs c0).mp ⟨k, by omega, k2⟩
            exact ⟨j, by omega, j2⟩
        · by_cases ej : j = i
          · exact ⟨len, by omega, by rw [if_pos rfl, j2, ej]⟩
          · obtain ⟨k, k1, k2⟩ := (hs c0).mpr ⟨j, by omega, j2⟩
            exact ⟨k, by omega, by rw [if_neg (by omega)]; exact k2⟩) (by
        intro c0 hc0
        show (_ → q_u2 (q_u2 z1.1 14 (q_J d R i i) 0) 15 len (q_i (q_J d R i i)) 14 c0 = 0) ∧ (_ → q_u2 (q_u2 z1.1 14 (q_J d R i i) 0) 15 len (q_i (q_J d R i i)) 14 c0 = -1)
        rw [q_u2_ne (by decide), q_u2_at, a3]
        by_cases ec : c0 = q_J d R i i
        · rw [if_pos ec]
          exact ⟨fun _ => rfl, fun q => absurd ⟨len, by omega, by rw [if_pos rfl]; exact ec⟩ q⟩
        · rw [if_neg ec]
          refine ⟨fun ⟨k, k1, k2⟩ => (hm c0 hc0).1 ⟨k, ?_⟩, fun q => (hm c0 hc0).2 fun ⟨k, k1, k2⟩ => q ⟨k, by omega, by rw [if_neg (by omega)]; exact k2⟩⟩
          by_cases ek : k = len
          · rw [if_pos ek] at k2
            exact absurd k2 ec
          · rw [if_neg ek] at k2
            exact ⟨by omega, k2⟩)
      refine ⟨len2, ch2, z2, ?_, b2, b3, b4, b5, q_fz_trans f1 b6 (fun _ q => q) (fun _ q => q)⟩
      rw [q_lp_go (s1 := (q_i ((len + 1 : Nat) : Int), q_i ((i + 1 : Nat) : Int), (q_u2 (q_u2 z1.1 14 (q_J d R i i) 0) 15 len (q_i (q_J d R i i)), z1.2)))]
      · exact b1
      · refine start _ ?_
        rw [if_pos (by rw [a3]; exact (hm _ hJ).2 c), if_neg (by rw [show (128 : Int32) = q_i ((128 : Nat) : Int) from rfl, q_nle (by omega) (by omega)]; omega), q_nti (by omega), if_pos (by omega), q_ncl (by omega)]
        unfold T_X3_listSquares_77
        rw [q_nsu, q_nsu]
theorem p_X3_sq2 {d R : Int} {len : Nat} {ch : Nat → Nat} (hdc : q_dc d R) (h4 : q_d4 d) (hl : len ≤ q_nc2 d R) : ∀ (r k : Nat) (z : q_Z), k + r = len → q_TC d R z → (∀ k, k < len → z.1 15 k = q_i (ch k) ∧ ch k < q_nc2 d R) → (∀ c, c < q_nc2 d R → z.1 14 c = -1 ∨ ∃ j, k ≤ j ∧ j < len ∧ c = ch j) → ∃ z2, q_lp B_X3_listSquares_85 (r + 1) (q_i len, q_i k, z) = some ((q_i len, q_i len, z2), 0) ∧ (∀ c, c < q_nc2 d R → z2.1 14 c = -1) ∧ q_fz (fun n => n = 14) z z2 := by
  have hn := q_nc2_le hdc h4
  intro r
  induction r with
  | zero =>
    intro k z hk hT hc hm
    have e : k = len := by omega
    subst e
    refine ⟨z, q_lp_end ?_, fun c hcn => ?_, q_fz_rfl _ z⟩
    · simp only [B_X3_listSquares_85]
      rw [if_pos (by rw [q_nle (by omega) (by omega)]; omega)]
    · rcases hm c hcn with q | ⟨j, j1, j2, -⟩
      · exact q
      · omega
  | succ r ih =>
    intro k z hk hT hc hm
    obtain ⟨c1, c2⟩ := hc k (by omega)
    have hcl : (0 : Int) ≤ ((ch k : Nat) : Int) ∧ ((ch k : Nat) : Int) < ((q_nc2 d R : Nat) : Int) := by omega
    have f1 : q_fz (fun n => n = 14) z (q_u2 z.1 14 (ch k) (-1), z.2) := q_fz_u z _ rfl
    obtain ⟨z2, b1, b2, b3⟩ := ih (k + 1) (q_u2 z.1 14 (ch k) (-1), z.2) (by omega) (q_TC_fz hT f1 (fun n hn => by omega)) (by
      intro j hj
      show q_u2 z.1 14 (ch k) (-1) 15 j = _ ∧ _
      rw [q_u2_ne (by decide)]
      exact hc j hj) (by
      intro c hcn
      show q_u2 z.1 14 (ch k) (-1) 14 c = -1 ∨ _
      rw [q_u2_at]
      by_cases e : c = ch k
      · rw [if_pos e]
        exact Or.inl rfl
      · rw [if_neg e]
        rcases hm c hcn with q | ⟨j, j1, j2, j3⟩
        · exact Or.inl q
        · refine Or.inr ⟨j, ?_, j2, j3⟩
          by_cases ej : j = k
          · rw [ej] at j3
            exact absurd j3 e
          · omega)
    refine ⟨z2, ?_, b2, q_fz_trans f1 b3 (fun _ q => q) (fun _ q => q)⟩
    rw [q_lp_go (s1 := (q_i len, q_i ((k + 1 : Nat) : Int), (q_u2 z.1 14 (ch k) (-1), z.2)))]
    · exact b1
    · simp only [B_X3_listSquares_85]
      rw [if_neg (by rw [q_nle (by omega) (by omega)]; omega), q_nti (by omega), if_pos (by omega), q_ncl (by omega), c1, p_X0_hasClass hdc h4 hT ⟨by omega, by omega⟩, Option.bind_some, if_pos hcl]
      dsimp only
      rw [if_neg (by decide), if_pos (by omega), c1, q_nti (by omega), if_pos (by omega), q_ncl (by omega)]
      unfold T_X3_listSquares_118
      rw [q_nsu]
theorem p_X3_listSquares {d R : Int} {z : q_Z} (hdc : q_dc d R) (h4 : q_d4 d) (hg : q_Cg d R z) (hT : q_TC d R z) (h14 : ∀ c, c < q_nc2 d R → z.1 14 c = -1) : ∃ (len : Nat) (ch : Nat → Nat) (z2 : q_Z), F_X3_listSquares z = some (q_i len, z2) ∧ len ≤ q_nc2 d R ∧ (∀ k, k < len → z2.1 15 k = q_i (ch k) ∧ ch k < q_nc2 d R) ∧ (∀ c, (∃ k, k < len ∧ c = ch k) ↔ ∃ j, j < q_nc2 d R ∧ c = q_J d R j j) ∧ (∀ c, c < q_nc2 d R → z2.1 14 c = -1) ∧ q_fz (fun n => n = 14 ∨ n = 15) z z2 := by
  have hn := q_nc2_le hdc h4
  obtain ⟨len, ch, z1, a1, a2, a3, a4, a5, a6⟩ := p_X3_sq1 hdc h4 (q_nc2 d R) 0 0 (fun _ => 0) z (by omega) hg hT (by omega) (fun k hk => by omega) (fun c => ⟨fun ⟨k, k1, _⟩ => by omega, fun ⟨k, k1, _⟩ => by omega⟩) (fun c hc => ⟨fun ⟨k, k1, _⟩ => by omega, fun _ => h14 c hc⟩)
  have a1 := q_lp_mono a1 (show q_nc2 d R + 1 ≤ q_fu by unfold q_fu; omega)
  have a1 : q_lp B_X3_listSquares_4 q_fu (0, 0, z) = _ := a1
  obtain ⟨z2, b1, b2, b3⟩ := p_X3_sq2 (ch := ch) hdc h4 a2 len 0 z1 (by omega) (q_TC_fz hT a6 (fun n hn => by omega)) a3 (by
    intro c hc
    by_cases e : ∃ k, k < len ∧ c = ch k
    · obtain ⟨k, k1, k2⟩ := e
      exact Or.inr ⟨k, by omega, k1, k2⟩
    · exact Or.inl ((a5 c hc).2 e))
  have b1 := q_lp_mono b1 (show len + 1 ≤ q_fu by unfold q_fu; omega)
  have b1 : q_lp B_X3_listSquares_85 q_fu (q_i len, 0, z1) = _ := b1
  refine ⟨len, ch, z2, ?_, a2, fun k hk => by rw [b3.1 15 (by decide)]; exact a3 k hk, a4, b2, q_fz_trans a6 b3 (fun _ q => q) (fun _ q => Or.inl q)⟩
  unfold F_X3_listSquares
  rw [a1, Option.bind_some]
  dsimp only
  rw [if_pos rfl]
  unfold T_X3_listSquares_83
  rw [b1]
  rfl
theorem p_X3_gen1 {d R : Int} {i len : Nat} {ch : Nat → Nat} {v : Int32} {O : Nat → Int32} (hdc : q_dc d R) (h4 : q_d4 d) (hi : i < q_nc2 d R) (hl : len ≤ q_nc2 d R) : ∀ (r k : Nat) (z : q_Z), k + r = len → q_Cg d R z → q_TC d R z → z.1 2 6 = v → (∀ k, k < len → z.1 15 k = q_i (ch k) ∧ ch k < q_nc2 d R) → (∀ c, c < q_nc2 d R → ((∃ j, j < k ∧ c = q_J d R i (ch j)) → z.1 14 c = v) ∧ ((¬ ∃ j, j < k ∧ c = q_J d R i (ch j)) → z.1 14 c = O c)) → ∃ w z2, q_lp B_X3_numberGenera_40 (r + 1) (q_i len, q_i i, q_i k, z) = some ((q_i len, q_i i, w, z2), 0) ∧ (∀ c, c < q_nc2 d R → ((∃ j, j < len ∧ c = q_J d R i (ch j)) → z2.1 14 c = v) ∧ ((¬ ∃ j, j < len ∧ c = q_J d R i (ch j)) → z2.1 14 c = O c)) ∧ q_fz (fun n => n = 14) z z2 := by
  have hn := q_nc2_le hdc h4
  intro r
  induction r with
  | zero =>
    intro k z hk hg hT hv hs hc
    have e : k = len := by omega
    subst e
    refine ⟨q_i k, z, q_lp_end ?_, hc, q_fz_rfl _ z⟩
    simp only [B_X3_numberGenera_40]
    rw [if_pos (by rw [q_nle (by omega) (by omega)]; omega)]
  | succ r ih =>
    intro k z hk hg hT hv hs hc
    obtain ⟨c1, c2⟩ := hs k (by omega)
    have hJ := q_J_lt hdc h4 hi c2
    obtain ⟨z1, a1, a2, a3⟩ := q_J_Xz hdc h4 hg hT hi c2
    have hT1 := q_TC_fz hT a2 (fun _ q => q.elim)
    have hcl : (0 : Int) ≤ ((q_J d R i (ch k) : Nat) : Int) ∧ ((q_J d R i (ch k) : Nat) : Int) < ((q_nc2 d R : Nat) : Int) := by omega
    have f1 : q_fz (fun n => n = 14) z (q_u2 z1.1 14 (q_J d R i (ch k)) v, z1.2) := q_fz_trans a2 (q_fz_u (P := fun n => n = 14) z1 v rfl) (fun _ q => q.elim) (fun _ q => q)
    obtain ⟨w, z2, b1, b2, b3⟩ := ih (k + 1) (q_u2 z1.1 14 (q_J d R i (ch k)) v, z1.2) (by omega) (q_Cg_fz hg f1 (fun n hn => by omega)) (q_TC_fz hT f1 (fun n hn => by omega)) (by
      show q_u2 z1.1 14 (q_J d R i (ch k)) v 2 6 = v
      rw [q_u2_ne (by decide), a3]
      exact hv) (by
      intro j hj
      show q_u2 z1.1 14 (q_J d R i (ch k)) v 15 j = _ ∧ _
      rw [q_u2_ne (by decide), a3]
      exact hs j hj) (by
      intro c hcn
      show (_ → q_u2 z1.1 14 (q_J d R i (ch k)) v 14 c = v) ∧ (_ → q_u2 z1.1 14 (q_J d R i (ch k)) v 14 c = O c)
      rw [q_u2_at, a3]
      by_cases e : c = q_J d R i (ch k)
      · rw [if_pos e]
        exact ⟨fun _ => rfl, fun q => absurd ⟨k, by omega, e⟩ q⟩
      · rw [if_neg e]
        refine ⟨fun ⟨j, j1, j2⟩ => (hc c hcn).1 ⟨j, ?_, j2⟩, fun q => (hc c hcn).2 fun ⟨j, j1, j2⟩ => q ⟨j, by omega, j2⟩⟩
        by_cases ej : j = k
        · rw [ej] at j2
          exact absurd j2 e
        · omega)
    refine ⟨w, z2, ?_, b2, q_fz_trans f1 b3 (fun _ q => q) (fun _ q => q)⟩
    rw [q_lp_go (s1 := (q_i len, q_i i, q_i ((k + 1 : Nat) : Int), (q_u2 z1.1 14 (q_J d R i (ch k)) v, z1.2)))]
    · exact b1
    · simp only [B_X3_numberGenera_40]
      rw [if_neg (by rw [q_nle (by omega) (by omega)]; omega), if_neg (by rw [show (128 : Int32) = q_i ((128 : Nat) : Int) from rfl, q_nle (by omega) (by omega)]; omega), q_nti (by omega), if_pos (by omega), q_ncl (by omega), c1, a1, Option.bind_some]
      dsimp only
      rw [p_X0_hasClass hdc h4 hT1 ⟨by omega, by omega⟩, Option.bind_some, if_pos hcl]
      dsimp only
      rw [if_neg (by decide), q_nti (by omega), if_pos (by omega), q_ncl (by omega), a3, hv, ← a3]
      unfold T_X3_numberGenera_91
      rw [q_nsu]
theorem p_X3_gen2 {d R : Int} {len : Nat} {ch : Nat → Nat} (hdc : q_dc d R) (h4 : q_d4 d) (hl : len ≤ q_nc2 d R) (hsq : ∀ c, (∃ k, k < len ∧ c = ch k) ↔ ∃ j, j < q_nc2 d R ∧ c = q_J d R j j) : ∀ (r i : Nat) (z : q_Z), i + r = q_nc2 d R → q_Cg d R z → q_TC d R z → z.1 2 6 = q_i (q_gs (q_nc2 d R) (q_J d R) i).1 → (∀ k, k < len → z.1 15 k = q_i (ch k) ∧ ch k < q_nc2 d R) → (∀ c, c < q_nc2 d R → z.1 14 c = (q_gs (q_nc2 d R) (q_J d R) i).2 c) → ∃ z2, q_lp B_X3_numberGenera_7 (r + 1) (q_i len, q_i i, z) = some ((q_i len, q_i (q_nc2 d R), z2), 0) ∧ z2.1 2 6 = q_i (q_gs (q_nc2 d R) (q_J d R) (q_nc2 d R)).1 ∧ (∀ c, c < q_nc2 d R → z2.1 14 c = (q_gs (q_nc2 d R) (q_J d R) (q_nc2 d R)).2 c) ∧ (∀ k, k ≠ 6 → z2.1 2 k = z.1 2 k) ∧ q_fz (fun n => n = 2 ∨ n = 14) z z2 := by
  have hn := q_nc2_le hdc h4
  intro r
  induction r with
  | zero =>
    intro i z hi hg hT h6 hs hc
    have e : i = q_nc2 d R := by omega
    rw [e] at hc h6 ⊢
    refine ⟨z, q_lp_end ?_, h6, hc, fun _ _ => rfl, q_fz_rfl _ z⟩
    simp only [B_X3_numberGenera_7]
    by_cases c : (128 : Int32) ≤ q_i (q_nc2 d R)
    · rw [if_pos c]
    · rw [if_neg c, hT.2.1, if_pos (by rw [q_nle (by omega) (by omega)]; omega)]
  | succ r ih =>
    intro i z hi hg hT h6 hs hc
    have hi1 : i < q_nc2 d R := by omega
    by_cases c : (q_gs (q_nc2 d R) (q_J d R) i).2 i = -1
    · obtain ⟨y1, y2⟩ := q_gs_yes c
      obtain ⟨w, z1, a1, a2, a3⟩ := p_X3_gen1 (v := q_i (q_gs (q_nc2 d R) (q_J d R) i).1) (O := (q_gs (q_nc2 d R) (q_J d R) i).2) hdc h4 hi1 hl len 0 z (by omega) hg hT h6 hs (fun c hcn => ⟨fun ⟨j, j1, _⟩ => by omega, fun _ => hc c hcn⟩)
      have a1 := q_lp_mono a1 (show len + 1 ≤ q_fu by unfold q_fu; omega)
      have a1 : q_lp B_X3_numberGenera_40 q_fu (q_i len, q_i i, 0, z) = _ := a1
      have e2 : z1.1 2 = z.1 2 := a3.1 2 (by decide)
      have f2 : q_fz (fun n => n = 2 ∨ n = 14) z (q_u2 z1.1 2 6 (q_i (q_gs (q_nc2 d R) (q_J d R) (i + 1)).1), z1.2) := q_fz_trans a3 (q_fz_u (P := fun n => n = 2 ∨ n = 14) z1 _ (Or.inl rfl)) (fun _ q => Or.inr q) (fun _ q => q)
      obtain ⟨z2, b1, b2, b3, b4, b5⟩ := ih (i + 1) (q_u2 z1.1 2 6 (q_i (q_gs (q_nc2 d R) (q_J d R) (i + 1)).1), z1.2) (by omega) (q_Cg_fz hg f2 (fun n hn => by omega)) (q_TC_fz hT f2 (fun n hn => by omega)) (by
        show q_u2 z1.1 2 6 (q_i (q_gs (q_nc2 d R) (q_J d R) (i + 1)).1) 2 6 = _
        rw [q_u2_at, if_pos rfl]) (by
        intro k hk
        show q_u2 z1.1 2 6 (q_i (q_gs (q_nc2 d R) (q_J d R) (i + 1)).1) 15 k = _ ∧ _
        rw [q_u2_ne (by decide), a3.1 15 (by decide)]
        exact hs k hk) (by
        intro e hen
        show q_u2 z1.1 2 6 (q_i (q_gs (q_nc2 d R) (q_J d R) (i + 1)).1) 14 e = _
        rw [q_u2_ne (by decide)]
        by_cases q : ∃ k, k < q_nc2 d R ∧ e = q_J d R i (q_J d R k k)
        · rw [(y2 e).1 q]
          obtain ⟨k, k1, k2⟩ := q
          obtain ⟨j, j1, j2⟩ := (hsq (q_J d R k k)).mpr ⟨k, k1, rfl⟩
          exact (a2 e hen).1 ⟨j, j1, by rw [k2, j2]⟩
        · rw [(y2 e).2 q]
          refine (a2 e hen).2 fun ⟨j, j1, j2⟩ => q ?_
          obtain ⟨k, k1, k2⟩ := (hsq (ch j)).mp ⟨j, j1, rfl⟩
          exact ⟨k, k1, by rw [j2, k2]⟩)
      refine ⟨z2, ?_, b2, b3, fun k hk => (b4 k hk).trans (by show q_u2 z1.1 2 6 _ 2 k = z.1 2 k; rw [q_u2_at, if_neg hk, e2]), q_fz_trans f2 b5 (fun _ q => q) (fun _ q => q)⟩
      rw [q_lp_go (s1 := (q_i len, q_i ((i + 1 : Nat) : Int), (q_u2 z1.1 2 6 (q_i (q_gs (q_nc2 d R) (q_J d R) (i + 1)).1), z1.2)))]
      · exact b1
      · simp only [B_X3_numberGenera_7]
        rw [if_neg (by rw [show (128 : Int32) = q_i ((128 : Nat) : Int) from rfl, q_nle (by omega) (by omega)]; omega), hT.2.1, if_neg (by rw [q_nle (by omega) (by omega)]; omega), q_nti (by omega), if_pos (by omega), q_ncl (by omega), hc i hi1, if_pos c, a1, Option.bind_some]
        dsimp only
        rw [if_pos rfl]
        unfold T_X3_numberGenera_97 T_X3_numberGenera_107
        rw [e2, h6, q_nsu, q_nsu, y1]
    · have e0 := q_gs_no c
      obtain ⟨z2, b1, b2, b3, b4, b5⟩ := ih (i + 1) z (by omega) hg hT (by rw [e0]; exact h6) hs (by rw [e0]; exact hc)
      refine ⟨z2, ?_, b2, b3, b4, b5⟩
      rw [q_lp_go (s1 := (q_i len, q_i ((i + 1 : Nat) : Int), z))]
      · exact b1
      · simp only [B_X3_numberGenera_7]
        rw [if_neg (by rw [show (128 : Int32) = q_i ((128 : Nat) : Int) from rfl, q_nle (by omega) (by omega)]; omega), hT.2.1, if_neg (by rw [q_nle (by omega) (by omega)]; omega), q_nti (by omega), if_pos (by omega), q_ncl (by omega), hc i hi1, if_neg c]
        unfold T_X3_numberGenera_107
        rw [q_nsu]
theorem p_X3_numberGenera {d R : Int} {z : q_Z} {len : Nat} {ch : Nat → Nat} (hdc : q_dc d R) (h4 : q_d4 d) (hl : len ≤ q_nc2 d R) (hsq : ∀ c, (∃ k, k < len ∧ c = ch k) ↔ ∃ j, j < q_nc2 d R ∧ c = q_J d R j j) (hg : q_Cg d R z) (hT : q_TC d R z) (hs : ∀ k, k < len → z.1 15 k = q_i (ch k) ∧ ch k < q_nc2 d R) (h14 : ∀ c, c < q_nc2 d R → z.1 14 c = -1) : ∃ z2, F_X3_numberGenera z (q_i len) = some ((), z2) ∧ z2.1 2 6 = q_i (q_gs (q_nc2 d R) (q_J d R) (q_nc2 d R)).1 ∧ (∀ c, c < q_nc2 d R → z2.1 14 c = (q_gs (q_nc2 d R) (q_J d R) (q_nc2 d R)).2 c) ∧ (∀ k, k ≠ 6 → z2.1 2 k = z.1 2 k) ∧ q_fz (fun n => n = 2 ∨ n = 14) z z2 := by
  have hn := q_nc2_le hdc h4
  have f1 : q_fz (fun n => n = 2 ∨ n = 14) z (q_u2 z.1 2 6 0, z.2) := q_fz_u z _ (Or.inl rfl)
  obtain ⟨z2, b1, b2, b3, b4, b5⟩ := p_X3_gen2 hdc h4 hl hsq (q_nc2 d R) 0 (q_u2 z.1 2 6 0, z.2) (by omega) (q_Cg_fz hg f1 (fun n hn => by omega)) (q_TC_fz hT f1 (fun n hn => by omega)) (by
    show q_u2 z.1 2 6 0 2 6 = _
    rw [q_u2_at, if_pos rfl]
    rfl) (by
    intro k hk
    show q_u2 z.1 2 6 0 15 k = _ ∧ _
    rw [q_u2_ne (by decide)]
    exact hs k hk) (by
    intro c hc
    show q_u2 z.1 2 6 0 14 c = _
    rw [q_u2_ne (by decide)]
    exact h14 c hc)
  have b1 := q_lp_mono b1 (show q_nc2 d R + 1 ≤ q_fu by unfold q_fu; omega)
  have b1 : q_lp B_X3_numberGenera_7 q_fu (q_i len, 0, (q_u2 z.1 2 6 0, z.2)) = _ := b1
  refine ⟨z2, ?_, b2, b3, fun k hk => (b4 k hk).trans (by show q_u2 z.1 2 6 0 2 k = z.1 2 k; rw [q_u2_at, if_neg hk]), q_fz_trans f1 b5 (fun _ q => q) (fun _ q => q)⟩
  unfold F_X3_numberGenera
  rw [b1]
  rfl
