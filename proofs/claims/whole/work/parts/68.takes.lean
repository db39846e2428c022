theorem p_X10_tkLoop {d n M : Int} {f : q_f3} {L : Nat → Nat → Int64} (hd : d < 0) (hd4 : -4000 ≤ d) (hG : q_G d f) (h1 : 1 ≤ n) (h2 : n ≤ 100000) (hL : L 128 13 = q_l f.2.1 ∧ L 128 14 = q_l f.2.2) (hM : 0 ≤ M ∧ M ≤ 400000) (hS : ∀ p, q_ev f p = n → -M ≤ p.1 ∧ p.1 ≤ M) : ∀ (r : Nat) (x : Int) (m : Nat) (e : Nat → Int × Int) (I : Nat → Nat → Int32), x + r = M + 1 → -M ≤ x → (m : Int) ≤ 2 * (x + M) → q_rn2 (q_tkP f n x) m e → q_Om m e (I, L) → ∃ (m2 : Nat) (e2 : Nat → Int × Int) (I2 : Nat → Nat → Int32), q_lp B_X10_takes_95 (r + 1) (q_i n, q_l (-d), q_l M, q_i m, q_l x, (I, L)) = some ((q_i n, q_l (-d), q_l M, q_i m2, q_l (M + 1), (I2, L)), 0) ∧ q_enu (q_tkS f n) m2 e2 ∧ q_Om m2 e2 (I2, L) ∧ (∀ k, k ≠ 132 → k ≠ 133 → I2 k = I k) ∧ m2 ≤ 2000000 := by
  have hF := hG.1
  have hpos := hF.2.2.2 hd
  have hcc := hG.2.2.2.2
  have ht : 4 * f.2.2 * n ≤ 4000000 * 100000 := Int.mul_le_mul (by have := hcc.2; omega) h2 (by omega) (by omega)
  have ht0 : 0 ≤ 4 * f.2.2 * n := Int.mul_nonneg (by omega) (by omega)
  have dx : ∀ x : Int, d * x * x = d * (x * x) := fun x => Int.mul_assoc _ _ _
  have dx0 : ∀ x : Int, d * x * x ≤ 0 := fun x => by rw [dx]; exact Int.mul_nonpos_of_nonpos_of_nonneg (by omega) (q_sq_nn x)
  intro r
  induction r with
  | zero =>
    intro x m e I hx hx0 hm hR hO
    have ex : x = M + 1 := by omega
    subst ex
    refine ⟨m, e, I, q_lp_end ?_, ⟨hR.1, fun i hi => ((hR.2 _).mp ⟨i, hi, rfl⟩).1, fun p hp => (hR.2 p).mpr ⟨hp, by have := hS p hp; omega⟩⟩, hO, fun _ _ _ => rfl, by omega⟩
    simp only [B_X10_takes_95]
    rw [if_pos (by rw [q_l_lt ⟨by omega, by omega⟩ ⟨by omega, by omega⟩]; omega)]
  | succ r ih =>
    intro x m e I hx hx0 hm hR hO
    obtain ⟨t, htd⟩ : ∃ t, t = 4 * f.2.2 * n + d * x * x := ⟨_, rfl⟩
    have b := dx0 x
    have b2 : -4000 * (400000 * 400000) ≤ d * x * x := by
      rw [dx]
      have h3 : x * x ≤ 400000 * 400000 := q_sq_le (x := x) (M := 400000) ⟨by omega, by omega⟩
      have h4 : -d * (x * x) ≤ 4000 * (400000 * 400000) := Int.mul_le_mul (by omega) h3 (q_sq_nn x) (by omega)
      rw [Int.neg_mul] at h4
      omega
    have te : (4 * L 128 14) * Int32.toInt64 (q_i n) - q_l (-d) * q_l x * q_l x = q_l t := by
      rw [hL.2, q_l_i ⟨by omega, by omega⟩, q_l4, q_l_mul, q_l_mul, q_l_mul, q_l_mul, q_l_sub, htd]
      congr 1
      grind
    have none_ : ∀ p, q_ev f p = n → p.1 = x → 0 ≤ t ∧ ∃ v : Int, v * v = t := by
      intro p hp hpx
      have h3 := q_ev_sq2 hF.1 p
      rw [hp, hpx] at h3
      have h4 : (2 * f.2.2 * p.2 + f.2.1 * x) * (2 * f.2.2 * p.2 + f.2.1 * x) = t := by rw [htd, dx]; omega
      exact ⟨by rw [← h4]; exact q_sq_nn _, _, h4⟩
    have skip : (∀ p, q_ev f p = n → p.1 ≠ x) → B_X10_takes_95 (q_i n, q_l (-d), q_l M, q_i m, q_l x, (I, L)) = some ((q_i n, q_l (-d), q_l M, q_i m, q_l (x + 1), (I, L)), 0) → ∃ (m2 : Nat) (e2 : Nat → Int × Int) (I2 : Nat → Nat → Int32), q_lp B_X10_takes_95 (r + 1 + 1) (q_i n, q_l (-d), q_l M, q_i m, q_l x, (I, L)) = some ((q_i n, q_l (-d), q_l M, q_i m2, q_l (M + 1), (I2, L)), 0) ∧ q_enu (q_tkS f n) m2 e2 ∧ q_Om m2 e2 (I2, L) ∧ (∀ k, k ≠ 132 → k ≠ 133 → I2 k = I k) ∧ m2 ≤ 2000000 := by
      intro hno hb
      obtain ⟨m2, e2, I2, g1, g2⟩ := ih (x + 1) m e I (by omega) (by omega) (by omega) (q_rn2_cong hR (fun p => by
        refine ⟨fun h => ⟨h.1, by have := h.2; omega⟩, fun h => ⟨h.1, ?_⟩⟩
        have h3 := hno p h.1
        have := h.2
        omega)) hO
      exact ⟨m2, e2, I2, by rw [q_lp_go hb]; exact g1, g2⟩
    have hgo : ¬ q_l M < q_l x := by rw [q_l_lt ⟨by omega, by omega⟩ ⟨by omega, by omega⟩]; omega
    have enx : q_l x + 1 = q_l (x + 1) := by rw [q_l1, q_l_add]
    by_cases c : 0 ≤ t
    · obtain ⟨w, w1, w2, w3, w4, w5⟩ := p_X10_root0 (z := (I, L)) (n := t) c ⟨by omega, by omega⟩
      have hwb : w ≤ 1000000 := by
        rcases Int.lt_or_le 1000000 w with q | q
        · have := q_sq_mono (show (0 : Int) ≤ 1000001 by decide) (show 1000001 ≤ w by omega)
          omega
        · exact q
      by_cases cw : w * w = t
      · obtain ⟨k, e2, I2, v, a1, a2, a3, a4, a5⟩ := p_X10_tkIn (x := x) (w := w) (q_i n) (q_l (-d)) (q_l M) hd hG hL ⟨by omega, by omega⟩ ⟨w1, hwb⟩ (by rw [cw, htd]) (by omega) hR hO
        have hb : B_X10_takes_95 (q_i n, q_l (-d), q_l M, q_i m, q_l x, (I, L)) = some ((q_i n, q_l (-d), q_l M, q_i ((m + k : Nat) : Int), q_l (x + 1), (I2, L)), 0) := by
          simp only [B_X10_takes_95, T_X10_takes_247]
          rw [if_neg hgo, te, if_pos (by rw [q_l0, q_l_le (by decide) ⟨by omega, by omega⟩]; exact c), w5, Option.bind_some]
          dsimp only
          rw [if_pos (by rw [q_l_mul, cw]), a1, Option.bind_some]
          dsimp only
          rw [if_pos rfl, enx]
        obtain ⟨m2, e3, I3, g1, g2, g3, g4, g5⟩ := ih (x + 1) (m + k) e2 I2 (by omega) (by omega) (by omega) a3 a4
        exact ⟨m2, e3, I3, by rw [q_lp_go hb]; exact g1, g2, g3, fun j p q => (g4 j p q).trans (a5 j p q), g5⟩
      · refine skip (fun p hp hpx => ?_) ?_
        · obtain ⟨_, v, hv⟩ := none_ p hp hpx
          have h5 : (v.natAbs : Int) * v.natAbs = t := by rw [← Int.natCast_mul, Int.natAbs_mul_self]; exact hv
          have h6 : t < ((v.natAbs : Int) + 1) * (v.natAbs + 1) := by
            have := q_sq_lt (Int.natCast_nonneg v.natAbs) (show (v.natAbs : Int) < (v.natAbs : Int) + 1 by omega)
            omega
          have := q_sqrt_uni w1 (Int.natCast_nonneg _) w3 w4 (Int.le_of_eq h5) h6
          rw [← this] at h5
          exact cw h5
        · have ww := q_sq_nn w
          simp only [B_X10_takes_95, T_X10_takes_247]
          rw [if_neg hgo, te, if_pos (by rw [q_l0, q_l_le (by decide) ⟨by omega, by omega⟩]; exact c), w5, Option.bind_some]
          dsimp only
          rw [if_neg (by rw [q_l_mul, q_l_eq ⟨by omega, by omega⟩ ⟨by omega, by omega⟩]; exact cw), enx]
    · refine skip (fun p hp hpx => c (none_ p hp hpx).1) ?_
      simp only [B_X10_takes_95, T_X10_takes_247]
      rw [if_neg hgo, te, if_neg (by rw [q_l0, q_l_le (by decide) ⟨by omega, by omega⟩]; exact c), enx]
theorem k_takes {s : q_SS} (hv : q_V s) (l1 l2 : Int32) : q_cok (fun z => F_X9_takes z l1 l2) (fun z => F_X10_takes z l1 l2) s := by
  obtain ⟨x, hx, rfl⟩ := q_i_of l1
  obtain ⟨n, hn, rfl⟩ := q_i_of l2
  have hsn := hv.2.2.1
  have hdb : q_b s.1.1 := by rcases hv.1 with q | q <;> exact ⟨by omega, by omega⟩
  have kd : (q_i s.1.1 ≤ (0 : Int32) ↔ s.1.1 ≤ 0) := q_i_le (y := 0) hdb (by decide)
  have kn : (q_i n < (1 : Int32) ↔ n < 1) := q_i_lt (y := 1) hn (by decide)
  have kp : (q_i n ≤ (100000 : Int32) ↔ n ≤ 100000) := q_i_le (y := 100000) hn (by decide)
  have hin : ∀ z : q_Z, F_X10_in z (Int32.toInt64 (q_i n)) 1 100000 = some (if 1 ≤ n ∧ n ≤ 100000 then 1 else 0, z) := fun z => p_in_i (z := z) (a := 1) (c := 100000) hn (by decide) (by decide)
  by_cases c : 0 ≤ x ∧ x < s.2.1.1
  · by_cases cd : s.1.1 ≤ 0
    · have hd : s.1.1 < 0 := by rcases hv.1 with q | q <;> omega
      by_cases cn : 1 ≤ n ∧ n ≤ 100000
      · have hG := hv.2.2.2.2.2.1 x.toNat (by omega)
        obtain ⟨f, hf⟩ : ∃ f, f = s.2.1.2 x.toNat := ⟨_, rfl⟩
        rw [← hf] at hG
        have hd4 : -4000 ≤ s.1.1 := by rcases hv.1 with q | q <;> omega
        have hd3 : s.1.1 ≤ -3 := by
          have := hv.2.1
          unfold q_d4 at this
          omega
        have hpos := hG.1.2.2.2 hd
        have hcc := hG.2.2.2.2
        have ht : 4 * f.2.2 * n ≤ 4000000 * 100000 := Int.mul_le_mul (by have := hcc.2; omega) cn.2 (by omega) (by omega)
        have ht0 : 0 ≤ 4 * f.2.2 * n := Int.mul_nonneg (by omega) (by omega)
        -- how far x goes
        obtain ⟨T, hT⟩ : ∃ T, T = 4 * f.2.2 * n / -s.1.1 := ⟨_, rfl⟩
        have hTm : T * -s.1.1 ≤ 4 * f.2.2 * n := by rw [hT]; exact Int.ediv_mul_le _ (by omega)
        have hT0 : 0 ≤ T := by rw [hT]; exact Int.ediv_nonneg ht0 (by omega)
        have hTb : T ≤ 133333333333 := by
          have : T * 3 ≤ T * -s.1.1 := Int.mul_le_mul_of_nonneg_left (by omega) hT0
          omega
        have rt : ∀ z : q_Z, ∃ M, 0 ≤ M ∧ M ≤ 400000 ∧ (∀ p, q_ev f p = n → -M ≤ p.1 ∧ p.1 ≤ M) ∧ F_X10_root0 z (q_l T) = some (q_l M, z) := by
          intro z
          obtain ⟨M, m1, m2, m3, m4, m5⟩ := p_X10_root0 (z := z) (n := T) hT0 ⟨by omega, by omega⟩
          refine ⟨M, m1, ?_, fun p hp => ?_, m5⟩
          · rcases Int.lt_or_le 400000 M with q | q
            · have := q_sq_mono (show (0 : Int) ≤ 400001 by decide) (show 400001 ≤ M by omega)
              omega
            · exact q
          · have h3 := q_ev_sq2 hG.1.1 p
            rw [hp] at h3
            have h4 := q_sq_nn (2 * f.2.2 * p.2 + f.2.1 * p.1)
            have h5 : p.1 * p.1 ≤ T := by
              rw [hT]
              refine Int.le_ediv_of_mul_le (by omega) ?_
              have : p.1 * p.1 * -s.1.1 = -(s.1.1 * (p.1 * p.1)) := by grind
              omega
            have key : ∀ v : Int, v * v ≤ T → v ≤ M := by
              intro v hv2
              rcases Int.lt_or_le M v with q | q
              · have := q_sq_mono (show 0 ≤ M + 1 by omega) (show M + 1 ≤ v by omega)
                omega
              · exact q
            have k1 := key p.1 h5
            have k2 := key (-p.1) (by rw [Int.neg_mul_neg]; exact h5)
            omega
        have ref : ∀ (I : Nat → Nat → Int32) (L : Nat → Nat → Int64), L 128 13 = q_l f.2.1 ∧ L 128 14 = q_l f.2.2 → ∃ M, F_X10_root0 (I, L) (q_l T) = some (q_l M, (I, L)) ∧ ∃ (m2 : Nat) (e2 : Nat → Int × Int) (I2 : Nat → Nat → Int32) (w : Int64), q_lp B_X10_takes_95 q_fu (q_i n, q_l (-s.1.1), q_l M, 0, -q_l M, (I, L)) = some ((q_i n, q_l (-s.1.1), q_l M, q_i m2, w, (I2, L)), 0) ∧ q_enu (q_tkS f n) m2 e2 ∧ q_Om m2 e2 (I2, L) ∧ (∀ k, k ≠ 132 → k ≠ 133 → I2 k = I k) ∧ m2 ≤ 2000000 := by
          intro I L hL
          obtain ⟨M, m1, m2, m3, m4⟩ := rt (I, L)
          obtain ⟨mm, e2, I2, g1, g2⟩ := p_X10_tkLoop hd hd4 hG cn.1 cn.2 hL ⟨m1, m2⟩ m3 (2 * M + 1).toNat (-M) 0 (fun _ => (0, 0)) I (by omega) (by omega) (by omega) ⟨fun i j _ h => absurd h (Nat.not_lt_zero j), fun q => ⟨fun ⟨i, h, _⟩ => absurd h (Nat.not_lt_zero i), fun h => by have := (m3 q h.1).1; have := h.2; omega⟩⟩ (fun i h => by omega)
          have g1 := q_lp_mono g1 (show (2 * M + 1).toNat + 1 ≤ q_fu by unfold q_fu; omega)
          rw [← q_l_neg M] at g1
          exact ⟨M, m4, mm, e2, I2, _, g1, g2⟩
        obtain ⟨_, -, m, e, -, -, -, hE, -, -, hm⟩ := ref (fun _ _ => 0) (fun n k => if k = 13 then q_l f.2.1 else q_l f.2.2) ⟨rfl, rfl⟩
        refine ⟨q_i m, q_s_out s m e, q_V_out hv m e, fun z hz => ?_, fun z hz => ?_⟩
        · have h3 : q_3 (z.2 (19 + x.toNat)) 0 f := by rw [hf]; exact hz.2.2.1.2 x.toNat (by omega)
          have fs := q_fn_spec hv.1 hG
          have hLF := q_red_LF hv.1 hG
          have hb := q_LF_b hv.1 hLF
          have hbn := hb.2.2.2.2.2 hd
          obtain ⟨W, hW⟩ : ∃ W, W = q_iwz s.1.1 s.1.2.1 (q_fn s.1.1 s.1.2.1 f) f (1, 0, 0, 1) := ⟨_, rfl⟩
          have hph : ∀ p, q_ev f (q_ph W p) = q_ev (q_red s.1.1 s.1.2.1 f) p := by
            rw [hW]
            refine q_ev_it hv.1 f _ f (1, 0, 0, 1) hG.1 (fun p => ?_)
            unfold q_ph q_ev
            simp
          have hdet : q_det W = 1 := by rw [hW, q_det_it]; rfl
          have hwl : q_itw s.1.1 s.1.2.1 (q_fn s.1.1 s.1.2.1 f) f (1, 0, 0, 1) = q_lw W := by
            rw [hW, ← q_itw_z]
            rfl
          obtain ⟨L, hL⟩ : ∃ L, L = q_v4 (q_v3 z.2 126 (q_red s.1.1 s.1.2.1 f)) 127 (q_lw W) := ⟨_, rfl⟩
          have hg3 : q_3 (L 126) 0 (q_red s.1.1 s.1.2.1 f) := by
            rw [hL, q_v4_ne (by decide)]
            exact q_v3_3 _ _ _
          have hw : L 127 0 = q_l W.1 ∧ L 127 1 = q_l W.2.1 ∧ L 127 2 = q_l W.2.2.1 ∧ L 127 3 = q_l W.2.2.2 := by
            rw [hL]
            exact q_v4_at (q_v3 z.2 126 (q_red s.1.1 s.1.2.1 f)) 127 (q_lw W)
          have htt : 4 * (q_red s.1.1 s.1.2.1 f).1 * n ≤ 252 * 100000 := Int.mul_le_mul (by omega) cn.2 (by omega) (by omega)
          have htt0 : 0 ≤ 4 * (q_red s.1.1 s.1.2.1 f).1 * n := Int.mul_nonneg (by omega) (by omega)
          obtain ⟨y, y1, y2, y3, y4, y5⟩ := p_X7_rootOf (z := (q_u2 z.1 122 2 0, L)) (n := 4 * (q_red s.1.1 s.1.2.1 f).1 * n) htt0 (by omega)
          have hyb : y ≤ 10000 := by
            rcases Int.lt_or_le 10000 y with q | q
            · have := q_sq_mono (show (0 : Int) ≤ 10001 by decide) (show 10001 ≤ y by omega)
              omega
            · exact q
          obtain ⟨m2, e2, I2, w1, w2, g1, g2, g3, g4⟩ := p_X9_ctLoop hd hd4 hG cn.1 cn.2 hph hdet ⟨by omega, by omega⟩ ⟨by omega, by omega⟩ hLF.1.1 hg3 hw 10000 0 y 0 (fun _ => (0, 0)) (q_u2 z.1 122 2 0) (by omega) (by omega) y1 hyb (by rw [Int.mul_zero, Int.add_zero]; exact y4) (by show q_u2 z.1 122 2 0 4 0 = _; rw [q_u2_ne (by decide)]; exact hz.1.1) ⟨fun i j _ h => absurd h (Nat.not_lt_zero j), fun q => ⟨fun ⟨i, h, _⟩ => absurd h (Nat.not_lt_zero i), fun ⟨p, h, _⟩ => by have h9 := h.2.1; have h8 := h.2.2; omega⟩, fun p h => h.1⟩ ⟨rfl, fun i h => by omega⟩
          obtain ⟨u1, u2⟩ := q_enu_uni g2 hE
          have k := q_C_out (z2 := (q_u2 I2 1 9 0, L)) (m := m) (e := e) (m2 := m2) (e2 := e2) hv hz ⟨(congrFun (show q_u2 I2 1 9 0 122 = I2 122 from q_u2_ne (by decide)) 2).trans g3.1, fun i hi => by
              show q_u2 I2 1 9 0 123 i = _ ∧ q_u2 I2 1 9 0 124 i = _
              rw [q_u2_ne (by decide), q_u2_ne (by decide)]
              exact g3.2 i hi⟩ u1 (fun i hi => u2 i (by omega)) (fun k a b c d => by
              show q_u2 I2 1 9 0 k = _
              rw [q_u2_ne a, g4 k b c d]
              exact q_u2_ne b) (fun k a b => by
              show L k = _
              rw [hL, q_v4_ne b, q_v3_ne a]) rfl
          refine ⟨_, ?_, k.1, k.2⟩
          show F_X9_takes z (q_i x) (q_i n) = _
          have lead := p_X2_lead (I := z.1) (L := z.2) (o := 126) (p := 127) (by decide) hz.1.1 hz.1.2 hv.1 hG.1 (q_G_s3 hG) fs.1 fs.2.1 fs.2.2
          rw [hwl] at lead
          have lead : F_X2_lead 126 127 (z.1, q_v3 z.2 126 f) = some (q_i (q_fn s.1.1 s.1.2.1 f), (z.1, L)) := by rw [hL]; exact lead
          have g1 := q_lp_mono g1 (show 10000 + 1 ≤ q_fu by decide)
          have g1 : q_lp B_X9_countTaken_27 q_fu (q_l (4 * (q_red s.1.1 s.1.2.1 f).1 * n), q_l y, 0, 0, (q_u2 z.1 122 2 0, L)) = _ := g1
          unfold F_X9_takes F_X4_clear
          rw [p_X6_at hz.2.2.1.1 hsn hx, Option.bind_some, if_pos c]
          dsimp only
          rw [if_pos (by rw [hz.1.1]; exact kd.mpr cd), if_neg (fun q => by have := kn.mp q; omega), if_pos (kp.mpr cn.2), p_X1_copy h3, Option.bind_some]
          dsimp only
          rw [lead, Option.bind_some]
          dsimp only
          rw [Option.bind_some]
          dsimp only
          unfold F_X9_countTaken T_X9_countTaken_181
          dsimp only
          rw [hg3.1, q_l4, q_l_i hn, q_l_mul, q_l_mul, y5, Option.bind_some]
          dsimp only
          rw [g1, Option.bind_some]
          dsimp only
          rw [if_pos rfl, Option.bind_some, u1]
          rfl
        · obtain ⟨M, r1, m2, e2, I2, w, g1, g2, g3, g4, g5⟩ := ref (q_u2 (q_u2 z.1 128 3 0) 128 2 0) (q_w7 z.2 f (z.2 128 15, z.2 128 16, z.2 128 17, z.2 128 18)) ⟨rfl, rfl⟩
          obtain ⟨u1, u2⟩ := q_enu_uni g2 hE
          have k := q_M_out (z2 := (q_u2 I2 128 11 (q_i ((min m2 200 : Nat) : Int)), q_w7 z.2 f (z.2 128 15, z.2 128 16, z.2 128 17, z.2 128 18))) (m := m) (e := e) (m2 := m2) (e2 := e2) hz (fun i hi => by
              show q_u2 I2 128 11 (q_i ((min m2 200 : Nat) : Int)) 132 i = _ ∧ q_u2 I2 128 11 (q_i ((min m2 200 : Nat) : Int)) 133 i = _
              rw [q_u2_ne (by decide), q_u2_ne (by decide)]
              exact g3 i hi) rfl u1 (fun i hi => u2 i (by omega)) (fun k a b c => by
              show q_u2 I2 128 11 (q_i ((min m2 200 : Nat) : Int)) k = _
              rw [q_u2_ne a, g4 k b c, q_u2_ne a, q_u2_ne a]) (fun k a b c => by
              show q_u2 I2 128 11 (q_i ((min m2 200 : Nat) : Int)) 128 k = _
              rw [q_u2_at, if_neg c, g4 128 (by decide) (by decide), q_u2_at, if_neg a, q_u2_at, if_neg b]) (fun k a => q_w7_ne a) (by
              show q_u2 I2 128 11 (q_i ((min m2 200 : Nat) : Int)) 128 2 = _
              rw [q_u2_at, if_neg (by decide), g4 128 (by decide) (by decide)]
              rfl)
          refine ⟨_, ?_, k.1, k.2⟩
          show F_X10_takes z (q_i x) (q_i n) = _
          have e0 : q_u2 z.1 128 3 0 128 0 = q_i s.1.1 := hz.1.1
          have e1 : q_u2 (q_u2 z.1 128 3 0) 128 2 0 128 0 = q_i s.1.1 := hz.1.1
          have en : Int32.toInt64 (-q_i s.1.1) = q_l (-s.1.1) := by rw [q_i_neg, q_l_i ⟨by omega, by omega⟩]
          have e14 : q_w7 z.2 f (z.2 128 15, z.2 128 16, z.2 128 17, z.2 128 18) 128 14 = q_l f.2.2 := rfl
          have ediv : 4 * q_l f.2.2 * q_l n / q_l (-s.1.1) = q_l T := by
            have e9 : (4 * f.2.2 * n).tdiv (-s.1.1) = T := by rw [hT]; exact Int.tdiv_eq_ediv_of_nonneg ht0
            rw [q_l4, q_l_mul, q_l_mul, q_l_div ⟨by omega, by omega⟩ ⟨by omega, by omega⟩ (by rw [e9]; exact ⟨by omega, by omega⟩), e9]
          unfold F_X10_takes T_X10_takes_273
          rw [p_X10_isPlace (z := (q_u2 z.1 128 3 0, z.2)) (n := s.2.1.1) hz.2.2.1.1 hsn hx, Option.bind_some, if_pos c]
          dsimp only
          rw [if_neg (by decide), if_pos (by rw [e0]; exact kd.mpr cd), hin, Option.bind_some, if_pos cn]
          dsimp only
          rw [if_neg (by decide), p_X10_take (z := (q_u2 (q_u2 z.1 128 3 0) 128 2 0, z.2)) hz.2.2.1.2 hsn c.1 c.2, Option.bind_some, ← hf]
          dsimp only
          rw [if_pos (by rw [e1, en, q_l0, q_l_eq ⟨by omega, by omega⟩ (by decide)]; omega), e1, en, e14, q_l_i hn, ediv, r1, Option.bind_some]
          dsimp only
          rw [g1, Option.bind_some]
          dsimp only
          rw [if_pos rfl]
          by_cases d2 : 200 ≤ m2
          · rw [if_pos (by rw [show (200 : Int32) = q_i 200 from rfl, q_i_le (by decide) ⟨by omega, by omega⟩]; omega), show min m2 200 = 200 by omega, u1]
            rfl
          · rw [if_neg (by rw [show (200 : Int32) = q_i 200 from rfl, q_i_le (by decide) ⟨by omega, by omega⟩]; omega), show min m2 200 = m2 by omega, u1]
      · refine q_cok_t hv (-1) 1 (fun z hz => ⟨(q_u2 z.1 1 9 1, z.2), ?_, q_CW_t 1 (q_CW_rfl z), rfl⟩) (fun z hz => ⟨(q_u2 (q_u2 z.1 128 3 0) 128 2 1, z.2), ?_, q_MW_t (z2 := (q_u2 z.1 128 3 0, z.2)) 1 (by decide) (q_MW_t (z2 := z) 0 (by decide) (q_MW_rfl z)), rfl⟩)
        · show F_X9_takes z (q_i x) (q_i n) = _
          unfold F_X9_takes
          rw [p_X6_at hz.2.2.1.1 hsn hx, Option.bind_some, if_pos c]
          dsimp only
          rw [if_pos (by rw [hz.1.1]; exact kd.mpr cd)]
          by_cases d1 : n < 1
          · rw [if_pos (kn.mpr d1)]
            rfl
          · rw [if_neg (fun q => d1 (kn.mp q)), if_neg (fun q => by have := kp.mp q; omega)]
            rfl
        · show F_X10_takes z (q_i x) (q_i n) = _
          have e0 : q_u2 z.1 128 3 0 128 0 = q_i s.1.1 := hz.1.1
          unfold F_X10_takes
          rw [p_X10_isPlace (z := (q_u2 z.1 128 3 0, z.2)) (n := s.2.1.1) hz.2.2.1.1 hsn hx, Option.bind_some, if_pos c]
          dsimp only
          rw [if_neg (by decide), if_pos (by rw [e0]; exact kd.mpr cd), hin, Option.bind_some, if_neg cn]
          rfl
    · refine q_cok_t hv (-1) 5 (fun z hz => ⟨(q_u2 z.1 1 9 5, z.2), ?_, q_CW_t 5 (q_CW_rfl z), rfl⟩) (fun z hz => ⟨(q_u2 (q_u2 z.1 128 3 0) 128 2 5, z.2), ?_, q_MW_t (z2 := (q_u2 z.1 128 3 0, z.2)) 5 (by decide) (q_MW_t (z2 := z) 0 (by decide) (q_MW_rfl z)), rfl⟩)
      · show F_X9_takes z (q_i x) (q_i n) = _
        unfold F_X9_takes
        rw [p_X6_at hz.2.2.1.1 hsn hx, Option.bind_some, if_pos c]
        dsimp only
        rw [if_neg (by rw [hz.1.1]; exact fun q => cd (kd.mp q))]
        rfl
      · show F_X10_takes z (q_i x) (q_i n) = _
        have e0 : q_u2 z.1 128 3 0 128 0 = q_i s.1.1 := hz.1.1
        unfold F_X10_takes
        rw [p_X10_isPlace (z := (q_u2 z.1 128 3 0, z.2)) (n := s.2.1.1) hz.2.2.1.1 hsn hx, Option.bind_some, if_pos c]
        dsimp only
        rw [if_neg (by decide), if_neg (by rw [e0]; exact fun q => cd (kd.mp q))]
        rfl
  · refine q_cok_t hv (-1) 2 (fun z hz => ⟨(q_u2 z.1 1 9 2, z.2), ?_, q_CW_t 2 (q_CW_rfl z), rfl⟩) (fun z hz => ⟨(q_u2 (q_u2 z.1 128 3 0) 128 2 2, z.2), ?_, q_MW_t (z2 := (q_u2 z.1 128 3 0, z.2)) 2 (by decide) (q_MW_t (z2 := z) 0 (by decide) (q_MW_rfl z)), rfl⟩)
    · unfold F_X9_takes
      rw [p_X6_at hz.2.2.1.1 hsn hx, Option.bind_some, if_neg c]
      rfl
    · unfold F_X10_takes
      rw [p_X10_isPlace (z := (q_u2 z.1 128 3 0, z.2)) (n := s.2.1.1) hz.2.2.1.1 hsn hx, Option.bind_some, if_neg c]
      rfl
