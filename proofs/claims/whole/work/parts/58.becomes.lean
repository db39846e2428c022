/-! becomes, classHere -/
theorem p_becomes {d R : Int} (hdc : q_dc d R) (h4 : q_d4 d) (z : q_Z) : ∃ z2, F_X10_becomes z (q_i d) = some ((), z2) ∧ z2.1 128 0 = q_i d ∧ z2.1 128 1 = q_i R ∧ q_Mtab d R z2 ∧ (∀ n, n ≠ 128 → (n < 134 ∨ 138 < n) → z2.1 n = z.1 n ∧ z2.2 n = z.2 n) ∧ ∀ k, k ≠ 0 → k ≠ 1 → k ≠ 22 → k ≠ 23 → z2.1 128 k = z.1 128 k := by
  have hR := q_dc_R hdc
  have hdb : q_b d := by rcases hdc with q | q <;> exact ⟨by omega, by omega⟩
  have isT := q_TT_T hdc h4
  have hn := q_TT_n hdc h4
  obtain ⟨I1, hI1⟩ : ∃ I1, I1 = q_u2 (q_u2 (q_u2 z.1 128 0 (q_i d)) 128 1 (q_i R)) 128 22 0 := ⟨_, rfl⟩
  have i1 : ∀ k, k ≠ 128 → I1 k = z.1 k := fun k hk => by rw [hI1, q_u2_ne hk, q_u2_ne hk, q_u2_ne hk]
  have i8 : ∀ k, k ≠ 0 → k ≠ 1 → k ≠ 22 → I1 128 k = z.1 128 k := fun k a b c => by rw [hI1, q_u2_at, if_neg c, q_u2_at, if_neg b, q_u2_at, if_neg a]
  have g1 : q_Mg d R (I1, z.2) := by rw [hI1]; exact ⟨rfl, rfl⟩
  have fin : ∀ top : Int, 0 ≤ top → top ≤ 63 → (∀ f, q_LF d R f → -top ≤ f.1 ∧ f.1 ≤ top ∧ -top ≤ f.2.1 ∧ f.2.1 ≤ top) → ∃ z2, T_X10_becomes_42 (I1, z.2) (q_i top) = some ((), z2) ∧ z2.1 128 0 = q_i d ∧ z2.1 128 1 = q_i R ∧ q_Mtab d R z2 ∧ (∀ n, n ≠ 128 → (n < 134 ∨ 138 < n) → z2.1 n = z.1 n ∧ z2.2 n = z.2 n) ∧ ∀ k, k ≠ 0 → k ≠ 1 → k ≠ 22 → k ≠ 23 → z2.1 128 k = z.1 128 k := by
    intro top t0 t1 t2
    obtain ⟨nt, M, z3, a1, a2, a3, a4⟩ := p_X10_listA hdc h4 ⟨t0, t1⟩ t2 (2 * top + 1).toNat (-top) 0 (fun _ => (0, 0, 0)) (I1, z.2) (by omega) (by omega) g1 (by rw [hI1]; exact ⟨rfl, fun i h => absurd h (Nat.not_lt_zero i)⟩) ⟨fun i j _ h => absurd h (Nat.not_lt_zero j), fun i h => absurd h (Nat.not_lt_zero i), fun f hf _ hq => by have := t2 f hf; omega⟩
    have hM : q_MM d R nt M := ⟨q_nT2 hdc h4 a3.1 (fun i hi => (a3.2.1 i hi).1), a3.1, fun i hi => (a3.2.1 i hi).1, fun f hf => a3.2.2 f hf trivial (by have := t2 f hf; omega)⟩
    -- where the positive ones begin
    obtain ⟨N, k1, k2⟩ := pk_least (fun k => nt ≤ k ∨ 0 < (M k).1) ⟨nt, Or.inl (Nat.le_refl nt)⟩
    have hNn : N ≤ nt := by
      rcases Nat.lt_or_ge nt N with c | c
      · exact absurd (Or.inl (Nat.le_refl nt)) (k2 nt c)
      · exact c
    have hpos : ∀ i, N ≤ i → i < nt → 0 < (M i).1 := by
      intro i hi hin
      rcases k1 with c | c
      · omega
      · by_cases e : N = i
        · rw [← e]; exact c
        · have := hM.2.1 N i (by omega) hin
          unfold q_lt at this
          omega
    have hneg : ∀ i, i < N → (M i).1 < 0 := by
      intro i hi
      have h2 : ¬ (nt ≤ i ∨ 0 < (M i).1) := k2 i hi
      have h3 := (hM.2.2.1 i (by omega)).1.2.1
      omega
    have hTT : q_isT d R (nt - N) (fun i => M (N + i)) := by
      refine ⟨fun i j a b => hM.2.1 (N + i) (N + j) (by omega) (by omega), fun i hi => ⟨hM.2.2.1 (N + i) (by omega), hpos (N + i) (by omega) (by omega)⟩, fun f hf hp => ?_⟩
      obtain ⟨i, j1, j2⟩ := hM.2.2.2 f hf
      have : N ≤ i := by
        rcases Nat.lt_or_ge i N with c | c
        · have := hneg i c
          rw [j2] at this
          omega
        · exact c
      exact ⟨i - N, by omega, by show M (N + (i - N)) = f; rw [show N + (i - N) = i by omega]; exact j2⟩
    obtain ⟨u1, u2⟩ := q_TT_uni hdc h4 hTT
    have ent : nt = N + (q_TT d R).1 := by omega
    subst ent
    have hMT : ∀ i, i < (q_TT d R).1 → M (N + i) = (q_TT d R).2 i := fun i hi => u2 i (by omega)
    have w : ∀ k, k ≠ 128 → q_u2 z3.1 128 23 0 k = z3.1 k := fun k hk => q_u2_ne hk
    have w8 : ∀ k, k ≠ 23 → q_u2 z3.1 128 23 0 128 k = z3.1 128 k := fun k hk => by rw [q_u2_at, if_neg hk]
    obtain ⟨z4, b1, b2, b3⟩ := p_X10_numLoop (T := (q_TT d R).2) hdc isT hn hM hMT hneg (N + (q_TT d R).1) 0 (q_u2 z3.1 128 23 0, z3.2) (by omega) ⟨(w8 0 (by decide)).trans ((a4.2.1 0 (by decide)).trans g1.1), (w8 1 (by decide)).trans ((a4.2.1 1 (by decide)).trans g1.2)⟩ (by
      rw [show 0 - N = 0 by omega]
      refine ⟨(w8 22 (by decide)).trans a2.1, fun k hk => ?_, rfl, fun k hk => ⟨fun h => absurd h (Nat.not_lt_zero _), fun _ => ?_⟩, fun j hj => absurd hj (Nat.not_lt_zero j)⟩
      · show q_u2 z3.1 128 23 0 134 k = _ ∧ q_u2 z3.1 128 23 0 135 k = _
        rw [w 134 (by decide), w 135 (by decide)]
        exact ⟨(a2.2 k hk).1, (a2.2 k hk).2.1⟩
      · show q_u2 z3.1 128 23 0 136 k = _
        rw [w 136 (by decide)]
        exact (a2.2 k hk).2.2)
    refine ⟨z4, ?_, ?_, ?_, ⟨N, M, hM.1, b2.1, hneg, hMT, hM.2.1, hM.2.2.1, hM.2.2.2, ?_, b2.2.2.1, ?_⟩, ?_, ?_⟩
    · unfold T_X10_becomes_42
      have a1 := q_lp_mono a1 (show (2 * top + 1).toNat + 1 ≤ q_fu by unfold q_fu; omega)
      have hle := hM.1
      have b1 := q_lp_mono b1 (show N + (q_TT d R).1 + 1 ≤ q_fu by unfold q_fu; omega)
      have b1 : q_lp B_X10_becomes_143 q_fu (0, (q_u2 z3.1 128 23 0, z3.2)) = _ := b1
      rw [q_i_neg, a1, Option.bind_some]
      dsimp only
      rw [if_pos rfl, b1, Option.bind_some]
      rfl
    · exact (b3.2.1 0 (by decide)).trans ((w8 0 (by decide)).trans ((a4.2.1 0 (by decide)).trans g1.1))
    · exact (b3.2.1 1 (by decide)).trans ((w8 1 (by decide)).trans ((a4.2.1 1 (by decide)).trans g1.2))
    · intro k hk
      have h1 := b2.2.1 k hk
      exact ⟨h1.1, h1.2, (b2.2.2.2.1 k hk).1 (q_hx_spec hdc isT (hM.2.2.1 k hk)).1⟩
    · intro c hc
      have s := q_hpl_spec hc
      have := b2.2.2.2.2 _ s.1 s.2.1
      rw [s.2.2] at this
      exact this
    · intro k hk hk2
      refine ⟨?_, ?_⟩
      · rw [b3.1 k hk (by omega) (by omega) (by omega)]
        show q_u2 z3.1 128 23 0 k = _
        rw [w k hk, a4.1 k hk (by omega) (by omega) (by omega)]
        exact i1 k hk
      · rw [b3.2.2 k hk]
        exact a4.2.2 k hk
    · intro k c0 c1 c2 c3
      rw [b3.2.1 k c3]
      show q_u2 z3.1 128 23 0 128 k = _
      rw [w8 k c3, a4.2.1 k c2]
      exact i8 k c0 c1 c2
  unfold F_X10_becomes T_X10_becomes_21
  by_cases hp : 0 < d
  · have hd : R * R < d ∧ d < (R + 1) * (R + 1) ∧ d ≤ 4000 := by rcases hdc with q | q <;> omega
    obtain ⟨r, r1, r2, r3, r4, r5⟩ := p_X10_root0 (z := (q_u2 z.1 128 0 (q_i d), z.2)) (n := d) (by omega) ⟨by omega, by omega⟩
    have er : r = R := q_sqrt_uni r1 (by omega) r3 r4 (by omega) hd.2.1
    subst er
    rw [if_neg (by rw [q_i0, q_i_le hdb (by decide)]; omega), q_l_i hdb, r5, Option.bind_some]
    dsimp only
    rw [if_neg (by rw [q_i0, q_i_le hdb (by decide)]; omega), q_i_l, ← hI1]
    exact fin r (by omega) (by omega) (fun f hf => by have := (q_LF_b hdc hf).2.2.2.2.1 hp; omega)
  · have hn' : d < 0 := by rcases hdc with q | q <;> omega
    have hR0 : R = 0 := by rcases hdc with q | q <;> omega
    subst hR0
    rw [if_pos (by rw [q_i0, q_i_le hdb (by decide)]; omega), if_pos (by rw [q_i0, q_i_le hdb (by decide)]; omega)]
    have := fin 40 (by omega) (by omega) (fun f hf => by have := (q_LF_b hdc hf).2.2.2.2.2 hn'; omega)
    rw [hI1] at this
    exact this
/-- classHere() answers the class of the form in the work fields -/
theorem p_X10_classHere {d R : Int} {I : Nat → Nat → Int32} {L : Nat → Nat → Int64} {f : q_f3} {w : q_W4} (hdc : q_dc d R) (hg : q_Mg d R (I, L)) (hM : q_Mtab d R (I, L)) (hG : q_G d f) : ∃ w2, F_X10_classHere (I, q_w7 L f w) = some (q_i (q_kls d R (q_red d R f)), (I, q_w7 L (q_red d R f) w2)) := by
  have fs := q_fn_spec hdc hG
  obtain ⟨N, M, h0, h1, h2, h3, h4, h5, h6, h7, h8, h9⟩ := hM
  have hLF := q_red_LF hdc hG
  obtain ⟨x, x1, x2⟩ := h6 _ hLF
  have red := p_X10_reduces (I := I) (L := L) (f := f) (w := w) hg.1 hg.2 hdc hG.1 (q_G_s3 hG) fs.1 fs.2.1 fs.2.2
  refine ⟨q_itw d R (q_fn d R f) f w, ?_⟩
  have ix := p_X10_indexOf (nt := N + (q_TT d R).1) (x := x) (M := M) (z := (I, q_w7 L (q_red d R f) (q_itw d R (q_fn d R f) f w))) (by omega) (fun i hi => by have := q_LF_b hdc (h5 i hi); exact ⟨⟨by omega, by omega⟩, ⟨by omega, by omega⟩⟩) h4 h1 (fun i hi => ⟨(h7 i hi).1, (h7 i hi).2.1⟩) x1
  rw [x2] at ix
  unfold F_X10_classHere
  rw [red, Option.bind_some]
  dsimp only
  show (F_X10_indexOf (I, q_w7 L (q_red d R f) (q_itw d R (q_fn d R f) f w)) (q_l (q_red d R f).1) (q_l (q_red d R f).2.1)).bind _ = _
  rw [ix, Option.bind_some]
  dsimp only
  rw [q_i_toInt ⟨by omega, by omega⟩, if_pos (by omega), q_clamp ⟨by omega, by omega⟩, show ((x : Int)).toNat = x by omega]
  have e := (h7 x x1).2.2
  rw [x2] at e
  have e : I 136 x = _ := e
  rw [e]
