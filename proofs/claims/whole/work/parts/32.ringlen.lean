/-! how long a RING is -/
theorem q_ab_eq {d : Int} {f g : q_f3} (hf : q_F3 d f) (hg : q_F3 d g) (h1 : f.1 = g.1) (h2 : f.2.1 = g.2.1) : f = g := by
  obtain ⟨a, b, c⟩ := f
  obtain ⟨a2, b2, c2⟩ := g
  have hf : q_fm d a b c := hf
  have hg : q_fm d a2 b2 c2 := hg
  simp only at h1 h2
  subst h1
  subst h2
  have e1 := hf.1
  have e2 := hg.1
  have ha := hf.2.1
  have h3 : (4 * a) * c = (4 * a) * c2 := by omega
  rw [Int.eq_of_mul_eq_mul_left (by omega) h3]
theorem q_s3_its {d R : Int} (hd : q_dc d R) : ∀ (n : Nat) (f : q_f3), q_F3 d f → q_s3 f → q_s3 (q_its d R n f)
  | 0, _, _, h => h
  | n + 1, f, hF, h => q_s3_its hd n (q_st d R f) (q_F3_st hd hF) (q_s3_st hd hF h)
theorem p_X2_ringLoop {I : Nat → Nat → Int32} {L : Nat → Nat → Int64} {o : Nat} {d R : Int} {f : q_f3} {n : Nat} (hd : I 4 0 = q_i d) (hR : I 4 1 = q_i R) (hdc : q_dc d R) (hF : q_F3 d f) (hs : q_s3 f) (hn : n ≤ 8192) (h1 : q_its d R n f = f) (h2 : ∀ m, 0 < m → m < n → q_its d R m f ≠ f) : ∀ (r k : Nat), k + r + 1 = n → q_lp (B_X2_ringLength_14 o) (r + 1) (q_l f.1, q_l f.2.1, q_i k, (I, q_v3 L o (q_its d R k f))) = some ((q_l f.1, q_l f.2.1, q_i n, (I, q_v3 L o f)), 0) := by
  intro r
  have adv : ∀ k, F_X2_advance o (I, q_v3 L o (q_its d R k f)) = some (q_l (q_tt2 d R (q_its d R k f).2.1 (q_its d R k f).2.2), (I, q_v3 L o (q_its d R (k + 1) f))) := by
    intro k
    rw [p_X2_advance3 hd hR hdc (q_F3_its hdc k f hF) (q_s3_its hdc k f hF hs), q_its_succ]
  have tst : ∀ k : Nat, k ≤ 8192 → ¬ (100000 : Int32) ≤ q_i k + 1 := by
    intro k hk
    rw [q_i1, q_i_add, show (100000 : Int32) = q_i 100000 from rfl, q_i_le (by decide) ⟨by omega, by omega⟩]
    omega
  induction r with
  | zero =>
    intro k hk
    refine q_lp_end ?_
    have e : k + 1 = n := by omega
    simp only [B_X2_ringLength_14, adv k, Option.bind_some, e, h1]
    obtain ⟨w0, w1, w2⟩ := q_v3_at L o f
    rw [if_neg (tst k (by omega)), w0, w1, if_pos rfl, if_pos rfl, q_i1, q_i_add, show (k : Int) + 1 = (n : Nat) by omega]
  | succ r ih =>
    intro k hk
    have hne := h2 (k + 1) (by omega) (by omega)
    have hb : B_X2_ringLength_14 o (q_l f.1, q_l f.2.1, q_i k, (I, q_v3 L o (q_its d R k f))) = some ((q_l f.1, q_l f.2.1, q_i ((k + 1 : Nat) : Int), (I, q_v3 L o (q_its d R (k + 1) f))), 0) := by
      simp only [B_X2_ringLength_14, adv k, Option.bind_some]
      obtain ⟨w0, w1, w2⟩ := q_v3_at L o (q_its d R (k + 1) f)
      have hs1 := q_s3_its hdc (k + 1) f hF hs
      rw [if_neg (tst k (by omega)), w0, w1, q_i1, q_i_add]
      by_cases c1 : (q_its d R (k + 1) f).1 = f.1
      · rw [if_pos (by rw [c1]), if_neg (fun c2 => hne (q_ab_eq (q_F3_its hdc (k + 1) f hF) hF c1 ((q_l_eq (q_SB hs1.2.1) (q_SB hs.2.1)).mp c2)))]
        rfl
      · rw [if_neg (fun q => c1 ((q_l_eq (q_SB hs1.1) (q_SB hs.1)).mp q))]
        rfl
    rw [q_lp_go hb]
    exact ih (k + 1) (by omega)
theorem p_X2_ringLength {I : Nat → Nat → Int32} {L : Nat → Nat → Int64} {o : Nat} {d R : Int} {f : q_f3} {n : Nat} (hd : I 4 0 = q_i d) (hR : I 4 1 = q_i R) (hdc : q_dc d R) (hF : q_F3 d f) (hs : q_s3 f) (hn0 : 0 < n) (hn : n ≤ 8192) (h1 : q_its d R n f = f) (h2 : ∀ m, 0 < m → m < n → q_its d R m f ≠ f) : F_X2_ringLength o (I, q_v3 L o f) = some (q_i n, (I, q_v3 L o f)) := by
  unfold F_X2_ringLength T_X2_ringLength_49
  obtain ⟨w0, w1, w2⟩ := q_v3_at L o f
  have h3 := q_lp_mono (p_X2_ringLoop (L := L) (o := o) hd hR hdc hF hs hn h1 h2 (n - 1) 0 (by omega)) (show n - 1 + 1 ≤ q_fu by unfold q_fu; omega)
  dsimp only
  rw [w0, w1, show (0 : Int32) = q_i ((0 : Nat) : Int) from rfl]
  have h4 : q_lp (B_X2_ringLength_14 o) q_fu (q_l f.1, q_l f.2.1, q_i ((0 : Nat) : Int), (I, q_v3 L o f)) = _ := h3
  rw [h4, Option.bind_some]
  rfl
/-- the reference's loop over a RING -/
theorem p_X10_ringLoop {I : Nat → Nat → Int32} {L : Nat → Nat → Int64} {d R : Int} {f : q_f3} {n : Nat} (hd : I 128 0 = q_i d) (hR : I 128 1 = q_i R) (hdc : q_dc d R) (hF : q_F3 d f) (hs : q_s3 f) (h1 : q_its d R n f = f) (h2 : ∀ m, 0 < m → m < n → q_its d R m f ≠ f) : ∀ (r k : Nat) (w : q_W4), k + r + 1 = n → ∃ v, q_lp B_X10_ring_64 (r + 2) (q_l f.1, q_l f.2.1, q_i k, 1, (I, q_w7 L (q_its d R k f) w)) = some ((q_l f.1, q_l f.2.1, q_i n, 0, (I, q_w7 L f v)), 0) := by
  intro r
  induction r with
  | zero =>
    intro k w hk
    have e : k + 1 = n := by omega
    have st := p_X10_steps7 (L := L) (w := w) hd hR hdc (q_F3_its hdc k f hF) (q_s3_its hdc k f hF hs)
    rw [← q_its_succ, e, h1] at st
    have hb : B_X10_ring_64 (q_l f.1, q_l f.2.1, q_i k, 1, (I, q_w7 L (q_its d R k f) w)) = some ((q_l f.1, q_l f.2.1, q_i n, 0, (I, q_w7 L f (q_wst (q_tt2 d R (q_its d R k f).2.1 (q_its d R k f).2.2) w))), 0) := by
      simp only [B_X10_ring_64, T_X10_ring_100, st, Option.bind_some]
      have r1 : ∀ (g : q_f3) (v : q_W4), q_w7 L g v 128 12 = q_l g.1 := fun _ _ => rfl
      have r2 : ∀ (g : q_f3) (v : q_W4), q_w7 L g v 128 13 = q_l g.2.1 := fun _ _ => rfl
      rw [if_neg (by decide), r1, r2, if_pos rfl, if_pos rfl, q_i1, q_i_add, show (k : Int) + 1 = (n : Nat) by omega]
    refine ⟨q_wst (q_tt2 d R (q_its d R k f).2.1 (q_its d R k f).2.2) w, ?_⟩
    rw [q_lp_go hb]
    refine q_lp_end ?_
    simp only [B_X10_ring_64]
    rw [if_pos (by decide)]
  | succ r ih =>
    intro k w hk
    have hne := h2 (k + 1) (by omega) (by omega)
    have st := p_X10_steps7 (L := L) (w := w) hd hR hdc (q_F3_its hdc k f hF) (q_s3_its hdc k f hF hs)
    rw [← q_its_succ] at st
    have hs1 := q_s3_its hdc (k + 1) f hF hs
    have hb : B_X10_ring_64 (q_l f.1, q_l f.2.1, q_i k, 1, (I, q_w7 L (q_its d R k f) w)) = some ((q_l f.1, q_l f.2.1, q_i ((k + 1 : Nat) : Int), 1, (I, q_w7 L (q_its d R (k + 1) f) (q_wst (q_tt2 d R (q_its d R k f).2.1 (q_its d R k f).2.2) w))), 0) := by
      simp only [B_X10_ring_64, T_X10_ring_100, T_X10_ring_95, st, Option.bind_some]
      rw [if_neg (by decide), q_i1, q_i_add]
      have r1 : ∀ (g : q_f3) (v : q_W4), q_w7 L g v 128 12 = q_l g.1 := fun _ _ => rfl
      have r2 : ∀ (g : q_f3) (v : q_W4), q_w7 L g v 128 13 = q_l g.2.1 := fun _ _ => rfl
      rw [r1, r2]
      by_cases c1 : (q_its d R (k + 1) f).1 = f.1
      · rw [if_pos (by rw [c1]), if_neg (fun c2 => hne (q_ab_eq (q_F3_its hdc (k + 1) f hF) hF c1 ((q_l_eq (q_SB hs1.2.1) (q_SB hs.2.1)).mp c2)))]
        rfl
      · rw [if_neg (fun q => c1 ((q_l_eq (q_SB hs1.1) (q_SB hs.1)).mp q))]
        rfl
    obtain ⟨v, g⟩ := ih (k + 1) (q_wst (q_tt2 d R (q_its d R k f).2.1 (q_its d R k f).2.2) w) (by omega)
    exact ⟨v, by rw [q_lp_go hb]; exact g⟩
