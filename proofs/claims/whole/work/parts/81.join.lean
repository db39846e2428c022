/-! JOIN of classes: both answer the same -/
noncomputable def q_jk (f g : q_f3) : Int := Classical.epsilon (fun k => -q_jA f g < k ∧ k < q_jA f g ∧ q_fits (q_jA f g) (q_jB f g) (q_jS f g) (q_jn f g) g.2.2 k)
noncomputable def q_J (d R : Int) (i j : Nat) : Nat := q_kls d R (q_red d R (q_j3 d (q_hd d R i) (q_hd d R j) (q_jk (q_hd d R i) (q_hd d R j))))
theorem q_jk_spec {d R : Int} {i j : Nat} (hdc : q_dc d R) (h4 : q_d4 d) (hi : i < q_nc2 d R) (hj : j < q_nc2 d R) : -q_jA (q_hd d R i) (q_hd d R j) < q_jk (q_hd d R i) (q_hd d R j) ∧ q_jk (q_hd d R i) (q_hd d R j) < q_jA (q_hd d R i) (q_hd d R j) ∧ q_fits (q_jA (q_hd d R i) (q_hd d R j)) (q_jB (q_hd d R i) (q_hd d R j)) (q_jS (q_hd d R i) (q_hd d R j)) (q_jn (q_hd d R i) (q_hd d R j)) (q_hd d R j).2.2 (q_jk (q_hd d R i) (q_hd d R j)) := by
  obtain ⟨zm, -, z0, z1, zt, -, -⟩ := p_becomes hdc h4 (fun _ _ => 0, fun _ _ => 0)
  obtain ⟨k, L, k1, k2, k3, -, -⟩ := p_X10_joined hdc h4 ⟨z0, z1⟩ zt hi hj
  exact Classical.epsilon_spec (p := fun k => -q_jA (q_hd d R i) (q_hd d R j) < k ∧ k < q_jA (q_hd d R i) (q_hd d R j) ∧ q_fits (q_jA (q_hd d R i) (q_hd d R j)) (q_jB (q_hd d R i) (q_hd d R j)) (q_jS (q_hd d R i) (q_hd d R j)) (q_jn (q_hd d R i) (q_hd d R j)) (q_hd d R j).2.2 k) ⟨k, k1, k2, k3⟩
theorem q_j3_kls {d R k l : Int} {f g : q_f3} (hdc : q_dc d R) (h4 : q_d4 d) (hf : q_LF d R f) (hg : q_LF d R g) (ha : 0 < f.1) (hb : 0 < g.1) (hk : q_fits (q_jA f g) (q_jB f g) (q_jS f g) (q_jn f g) g.2.2 k) (hl : q_fits (q_jA f g) (q_jB f g) (q_jS f g) (q_jn f g) g.2.2 l) (kb : -q_jA f g < k ∧ k < q_jA f g) (lb : -q_jA f g < l ∧ l < q_jA f g) : q_kls d R (q_red d R (q_j3 d f g k)) = q_kls d R (q_red d R (q_j3 d f g l)) := by
  obtain ⟨j1, j2, j3, j4, j5, j6, j7, j8, j9, j10, j11, j12⟩ := q_j_all hdc hf hg ha hb
  obtain ⟨o1, o2, o3, o4, o5⟩ := q_j3_G hdc hf hg ha hb hk kb
  obtain ⟨p1, p2, p3, p4, p5⟩ := q_j3_G hdc hf hg ha hb hl lb
  obtain ⟨v, w, hvw⟩ := q_j_vw hdc hf hg ha hb
  obtain ⟨x, hx⟩ := q_fits_uni hvw hl hk
  have e : l = k + q_jA f g * x := by omega
  subst e
  exact q_kls_red hdc h4 o3 p3 (q_j3_T o3.1.1 p3.1.1 (Int.mul_pos j8 j10))
theorem q_J_X0 {d R : Int} {z : q_Z} {i j : Nat} (hdc : q_dc d R) (h4 : q_d4 d) (hg : q_Cg d R z) (hT : q_TC d R z) (hi : i < q_nc2 d R) (hj : j < q_nc2 d R) : ∃ L2, F_X0_joined z (q_i i) (q_i j) = some (q_i (q_J d R i j), (z.1, L2)) ∧ ∀ m, m ≠ 10 → m ≠ 11 → m ≠ 12 → L2 m = z.2 m := by
  obtain ⟨l, L2, l1, l2, l3, l4, l5⟩ := p_X0_joined hdc h4 hg hT hi hj
  obtain ⟨hf, ha⟩ := q_hd_LF hdc h4 hi
  obtain ⟨hg2, hb⟩ := q_hd_LF hdc h4 hj
  obtain ⟨k1, k2, k3⟩ := q_jk_spec hdc h4 hi hj
  refine ⟨L2, ?_, l5⟩
  unfold q_J
  rw [l4, q_j3_kls hdc h4 hf hg2 ha hb l3 k3 ⟨by omega, l2⟩ ⟨k1, k2⟩]
theorem q_J_X10 {d R : Int} {z : q_Z} {i j : Nat} (hdc : q_dc d R) (h4 : q_d4 d) (hg : q_Mg d R z) (hT : q_Mtab d R z) (hi : i < q_nc2 d R) (hj : j < q_nc2 d R) : ∃ L2, F_X10_joined z (q_i i) (q_i j) = some (q_i (q_J d R i j), (z.1, L2)) ∧ ∀ m, m ≠ 128 → L2 m = z.2 m := by
  obtain ⟨l, L2, l1, l2, l3, l4, l5⟩ := p_X10_joined hdc h4 hg hT hi hj
  obtain ⟨hf, ha⟩ := q_hd_LF hdc h4 hi
  obtain ⟨hg2, hb⟩ := q_hd_LF hdc h4 hj
  obtain ⟨k1, k2, k3⟩ := q_jk_spec hdc h4 hi hj
  refine ⟨L2, ?_, l5⟩
  unfold q_J
  rw [l4, q_j3_kls hdc h4 hf hg2 ha hb l3 k3 ⟨l1, l2⟩ ⟨k1, k2⟩]
theorem q_J_G {d R : Int} {i j : Nat} (hdc : q_dc d R) (h4 : q_d4 d) (hi : i < q_nc2 d R) (hj : j < q_nc2 d R) : q_G d (q_j3 d (q_hd d R i) (q_hd d R j) (q_jk (q_hd d R i) (q_hd d R j))) := by
  obtain ⟨hf, ha⟩ := q_hd_LF hdc h4 hi
  obtain ⟨hg2, hb⟩ := q_hd_LF hdc h4 hj
  obtain ⟨k1, k2, k3⟩ := q_jk_spec hdc h4 hi hj
  exact (q_j3_G hdc hf hg2 ha hb k3 ⟨k1, k2⟩).2.2.1
theorem q_J_lt {d R : Int} {i j : Nat} (hdc : q_dc d R) (h4 : q_d4 d) (hi : i < q_nc2 d R) (hj : j < q_nc2 d R) : q_J d R i j < q_nc2 d R := q_kls_lt hdc h4 (q_red_LF hdc (q_J_G hdc h4 hi hj))
theorem q_MW_LL {z : q_Z} {I : Nat → Nat → Int32} {L L2 : Nat → Nat → Int64} (h : q_MW z (I, L)) (e : ∀ m, m ≠ 128 → L2 m = L m) : q_MW z (I, L2) :=
  ⟨fun n hn hl => ⟨(h.1 n hn hl).1, (e n hn).trans (h.1 n hn hl).2⟩, h.2⟩
theorem q_Mtab_t {d R : Int} {z : q_Z} {k : Nat} (t : Int32) (hk : k ≠ 22 ∧ k ≠ 23) (h : q_Mtab d R z) : q_Mtab d R (q_u2 z.1 128 k t, z.2) :=
  q_Mtab_fr h (by show q_u2 z.1 128 k t 128 22 = _; rw [q_u2_at, if_neg (by omega)]) (by show q_u2 z.1 128 k t 128 23 = _; rw [q_u2_at, if_neg (by omega)]) (fun n a b => by show q_u2 z.1 128 k t n = _; rw [q_u2_ne (by omega)])
theorem k_join {s : q_SS} (hv : q_V s) (l1 l2 : Int32) : q_cok (fun z => F_X9_join z l1 l2) (fun z => F_X10_join z l1 l2) s := by
  obtain ⟨x, hx, rfl⟩ := q_i_of l1
  obtain ⟨y, hy, rfl⟩ := q_i_of l2
  have hle := q_nc2_le hv.1 hv.2.1
  by_cases c : (0 ≤ x ∧ x < q_nc2 s.1.1 s.1.2.1) ∧ 0 ≤ y ∧ y < q_nc2 s.1.1 s.1.2.1
  · obtain ⟨X, rfl⟩ : ∃ X : Nat, x = X := ⟨x.toNat, by omega⟩
    obtain ⟨Y, rfl⟩ : ∃ Y : Nat, y = Y := ⟨y.toNat, by omega⟩
    have hX : X < q_nc2 s.1.1 s.1.2.1 := by omega
    have hY : Y < q_nc2 s.1.1 s.1.2.1 := by omega
    refine ⟨q_i (q_J s.1.1 s.1.2.1 X Y), ((s.1.1, s.1.2.1, 0), s.2), hv, fun z hz => ?_, fun z hz => ?_⟩
    · obtain ⟨z1, a1, a2, a3, a4, -⟩ := p_prep hv hz
      obtain ⟨L2, b1, b2⟩ := q_J_X0 hv.1 hv.2.1 a2.1 a4 hX hY
      have k := q_C_X (z2 := (q_u2 z1.1 1 9 0, L2)) 0 a2 hv ⟨fun n h1 _ _ _ => q_u2_ne h1, fun n h0 h1 h2 _ _ _ => b2 n h0 h1 h2⟩ rfl
      refine ⟨(q_u2 z1.1 1 9 0, L2), ?_, k.1, q_fC_trans a3 k.2⟩
      show F_X9_join z (q_i X) (q_i Y) = _
      unfold F_X9_join
      rw [a1, Option.bind_some]
      dsimp only
      rw [p_X0_hasClass hv.1 hv.2.1 a4 hx, Option.bind_some, if_pos c.1]
      dsimp only
      rw [if_neg (by decide), p_X0_hasClass hv.1 hv.2.1 a4 hy, Option.bind_some, if_pos c.2]
      dsimp only
      rw [if_neg (by decide), b1, Option.bind_some]
      rfl
    · obtain ⟨N, M, h0, h1, h2, h3, h4, h5, h6, h7, h8, h9⟩ := hz.2.2.2.2.2.2
      obtain ⟨L2, b1, b2⟩ := q_J_X10 (z := (q_u2 (q_u2 z.1 128 3 0) 128 2 0, z.2)) hv.1 hv.2.1 hz.1 (q_Mtab_t (z := (q_u2 z.1 128 3 0, z.2)) 0 (by decide) (q_Mtab_t 0 (by decide) hz.2.2.2.2.2.2)) hX hY
      have k := q_M_work (z2 := (q_u2 (q_u2 z.1 128 3 0) 128 2 0, L2)) 0 hz (q_MW_LL (L := z.2) (q_MW_t (z2 := (q_u2 z.1 128 3 0, z.2)) 0 (by decide) (q_MW_t (z2 := z) 0 (by decide) (q_MW_rfl z))) b2) rfl
      refine ⟨_, ?_, k.1, k.2⟩
      show F_X10_join z (q_i X) (q_i Y) = _
      unfold F_X10_join
      rw [p_X10_isClass (z := (q_u2 z.1 128 3 0, z.2)) hv.1 hv.2.1 h8 hx, Option.bind_some, if_pos c.1]
      dsimp only
      rw [if_neg (by decide), p_X10_isClass (z := (q_u2 z.1 128 3 0, z.2)) hv.1 hv.2.1 h8 hy, Option.bind_some, if_pos c.2]
      dsimp only
      rw [if_neg (by decide), b1, Option.bind_some]
  · refine ⟨-1, ((s.1.1, s.1.2.1, 2), s.2), hv, fun z hz => ?_, fun z hz => ?_⟩
    · obtain ⟨z1, a1, a2, a3, a4, -⟩ := p_prep hv hz
      have k := q_C_t0 a2 hv 2
      refine ⟨_, ?_, k.1, q_fC_trans a3 k.2⟩
      show F_X9_join z (q_i x) (q_i y) = _
      unfold F_X9_join
      rw [a1, Option.bind_some]
      dsimp only
      rw [p_X0_hasClass hv.1 hv.2.1 a4 hx, Option.bind_some]
      by_cases cx : 0 ≤ x ∧ x < q_nc2 s.1.1 s.1.2.1
      · rw [if_pos cx]
        dsimp only
        rw [if_neg (by decide), p_X0_hasClass hv.1 hv.2.1 a4 hy, Option.bind_some, if_neg (fun cy => c ⟨cx, cy⟩)]
        rfl
      · rw [if_neg cx]
        rfl
    · obtain ⟨N, M, h0, h1, h2, h3, h4, h5, h6, h7, h8, h9⟩ := hz.2.2.2.2.2.2
      have k := q_M_work (z2 := (q_u2 (q_u2 z.1 128 3 0) 128 2 2, z.2)) 2 hz (q_MW_t (z2 := (q_u2 z.1 128 3 0, z.2)) 2 (by decide) (q_MW_t (z2 := z) 0 (by decide) (q_MW_rfl z))) rfl
      refine ⟨_, ?_, k.1, k.2⟩
      show F_X10_join z (q_i x) (q_i y) = _
      unfold F_X10_join
      rw [p_X10_isClass (z := (q_u2 z.1 128 3 0, z.2)) hv.1 hv.2.1 h8 hx, Option.bind_some]
      by_cases cx : 0 ≤ x ∧ x < q_nc2 s.1.1 s.1.2.1
      · rw [if_pos cx]
        dsimp only
        rw [if_neg (by decide), p_X10_isClass (z := (q_u2 z.1 128 3 0, z.2)) hv.1 hv.2.1 h8 hy, Option.bind_some, if_neg (fun cy => c ⟨cx, cy⟩)]
        rfl
      · rw [if_neg cx]
        rfl
