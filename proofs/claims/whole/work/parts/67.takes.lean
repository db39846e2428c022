/-! takes of the reference; takes -/
def q_rn2 (P : Int × Int → Prop) (m : Nat) (e : Nat → Int × Int) : Prop := q_inc m e ∧ ∀ q, (∃ i, i < m ∧ e i = q) ↔ P q
theorem q_rn2_ap {P : Int × Int → Prop} {m : Nat} {e : Nat → Int × Int} {p : Int × Int} (h : q_rn2 P m e) (hp : ∀ q, P q → q_l2t q p) : q_rn2 (fun q => P q ∨ q = p) (m + 1) (q_ap2 e m p) := by
  refine ⟨?_, fun q => ⟨fun ⟨i, hi, he⟩ => ?_, fun hq => ?_⟩⟩
  · intro i j hij hj
    unfold q_ap2
    by_cases d : j = m
    · rw [if_pos d, if_neg (by omega)]
      exact hp _ ((h.2 _).mp ⟨i, by omega, rfl⟩)
    · rw [if_neg d, if_neg (by omega)]
      exact h.1 i j hij (by omega)
  · unfold q_ap2 at he
    by_cases d : i = m
    · rw [if_pos d] at he
      exact Or.inr he.symm
    · rw [if_neg d] at he
      exact Or.inl ((h.2 q).mp ⟨i, by omega, he⟩)
  · rcases hq with hq | hq
    · obtain ⟨i, i1, i2⟩ := (h.2 q).mpr hq
      refine ⟨i, by omega, ?_⟩
      unfold q_ap2
      rw [if_neg (by omega)]
      exact i2
    · refine ⟨m, by omega, ?_⟩
      unfold q_ap2
      rw [if_pos rfl]
      exact hq.symm
theorem q_rn2_cong {P P2 : Int × Int → Prop} {m : Nat} {e : Nat → Int × Int} (h : q_rn2 P m e) (hq : ∀ p, P p ↔ P2 p) : q_rn2 P2 m e := ⟨h.1, fun q => (h.2 q).trans (hq q)⟩
/-- one candidate -/
theorem p_X10_tkC {c x w u t0 t1 : Int} {P : Int × Int → Prop} {m : Nat} {e : Nat → Int × Int} {I : Nat → Nat → Int32} {L : Nat → Nat → Int64} (l2 : Int32) (l3 l5 : Int64) (l14 : Int32) (hc : 0 < c ∧ c ≤ 1000000) (hL : L 128 14 = q_l c) (hu : t1 + t0 = u) (hub : -100000000000000 ≤ u ∧ u ≤ 100000000000000) (hm : m < 2000000000) (hR : q_rn2 P m e) (hO : q_Om m e (I, L)) (hP : ∀ q, P q → q.1 < x ∨ (q.1 = x ∧ 2 * c * q.2 < u)) : ∃ (k : Nat) (e2 : Nat → Int × Int) (I2 : Nat → Nat → Int32), T_X10_takes_197 (I, L) l2 l3 l5 (q_i m) (q_l x) (q_l w) l14 (q_l t0) (q_l t1) = some ((l2, l3, l5, q_i ((m + k : Nat) : Int), q_l x, q_l w, l14 + 1, (I2, L)), 0) ∧ k ≤ 1 ∧ q_rn2 (fun q => P q ∨ (q.1 = x ∧ 2 * c * q.2 = u)) (m + k) e2 ∧ q_Om (m + k) e2 (I2, L) ∧ ∀ j, j ≠ 132 → j ≠ 133 → I2 j = I j := by
  have e2A : 2 * L 128 14 = q_l (2 * c) := by rw [hL, q_l2, q_l_mul]
  have hne : ¬ (2 * L 128 14 = (0 : Int64)) := by rw [e2A, q_l0, q_l_eq ⟨by omega, by omega⟩ (by decide)]; omega
  have hB : q_B u := ⟨by omega, by omega⟩
  have hrem : (q_l u - q_l u / (2 * L 128 14) * (2 * L 128 14) = (0 : Int64)) ↔ (2 * c) ∣ u := by
    rw [e2A, q_l_rem hB ⟨by omega, by omega⟩ (q_tdivB hB ⟨by omega, by omega⟩), q_l0]
    have hb2 : q_B (u.tmod (2 * c)) := by
      have h3 : (u.tmod (2 * c)).natAbs ≤ u.natAbs := by rw [Int.natAbs_tmod]; exact Nat.mod_le _ _
      constructor <;> omega
    rw [q_l_eq hb2 (by decide), q_dvd_tmod]
  unfold T_X10_takes_197 T_X10_takes_241
  dsimp only
  rw [if_pos hne, q_l_add, hu]
  by_cases cd : (2 * c) ∣ u
  · obtain ⟨y, hy⟩ := cd
    have ed : q_l u / (2 * L 128 14) = q_l y := by
      have e1 : u.tdiv (2 * c) = y := by rw [hy]; exact Int.mul_tdiv_cancel_left _ (by omega)
      rw [e2A, q_l_div hB ⟨by omega, by omega⟩ (q_tdivB hB ⟨by omega, by omega⟩), e1]
    obtain ⟨I2, i1, i2, i3⟩ := p_X10_put (z := (I, L)) (x := x) (y := y) hm hO
    refine ⟨1, q_ap2 e m (x, y), I2, ?_, by omega, q_rn2_cong (q_rn2_ap (p := (x, y)) hR (fun q hq => ?_)) (fun q => ?_), i2, i3⟩
    · rw [if_pos (hrem.mpr ⟨y, hy⟩), if_pos hne, ed, i1, Option.bind_some]
      dsimp only
      rw [q_i1, q_i_add]
      rfl
    · rcases hP q hq with h | ⟨h, h2⟩
      · exact Or.inl h
      · refine Or.inr ⟨h, ?_⟩
        show q.2 < y
        rw [hy] at h2
        exact Int.lt_of_mul_lt_mul_left h2 (by omega)
    · refine ⟨fun h => ?_, fun h => ?_⟩
      · rcases h with h | h
        · exact Or.inl h
        · rw [h]
          exact Or.inr ⟨rfl, hy.symm⟩
      · rcases h with h | ⟨h, h2⟩
        · exact Or.inl h
        · rw [hy] at h2
          exact Or.inr (Prod.ext h (Int.eq_of_mul_eq_mul_left (show 2 * c ≠ 0 by omega) h2))
  · refine ⟨0, e, I, ?_, by omega, q_rn2_cong hR (fun q => ?_), hO, fun _ _ _ => rfl⟩
    · rw [if_neg (fun q => cd (hrem.mp q))]
      rfl
    · refine ⟨fun h => Or.inl h, fun h => ?_⟩
      rcases h with h | ⟨_, h2⟩
      · exact h
      · exact absurd ⟨q.2, h2.symm⟩ cd
def q_tkP (f : q_f3) (n x : Int) (p : Int × Int) : Prop := q_ev f p = n ∧ p.1 < x
theorem p_X10_tkIn {d n x w : Int} {f : q_f3} {m : Nat} {e : Nat → Int × Int} {I : Nat → Nat → Int32} {L : Nat → Nat → Int64} (l2 : Int32) (l3 l5 : Int64) (hd : d < 0) (hG : q_G d f) (hL : L 128 13 = q_l f.2.1 ∧ L 128 14 = q_l f.2.2) (hx : -1000000 ≤ x ∧ x ≤ 1000000) (hw : 0 ≤ w ∧ w ≤ 1000000) (hwt : w * w = 4 * f.2.2 * n + d * x * x) (hm : m < 1999999990) (hR : q_rn2 (q_tkP f n x) m e) (hO : q_Om m e (I, L)) : ∃ (k : Nat) (e2 : Nat → Int × Int) (I2 : Nat → Nat → Int32) (v : Int32), q_lp B_X10_takes_159 q_fu (l2, l3, l5, q_i m, q_l x, q_l w, 0, (I, L)) = some ((l2, l3, l5, q_i ((m + k : Nat) : Int), q_l x, q_l w, v, (I2, L)), 0) ∧ k ≤ 2 ∧ q_rn2 (q_tkP f n (x + 1)) (m + k) e2 ∧ q_Om (m + k) e2 (I2, L) ∧ ∀ j, j ≠ 132 → j ≠ 133 → I2 j = I j := by
  have hF := hG.1
  have hpos := hF.2.2.2 hd
  have hbb := hG.2.2.2.1
  have hcc := hG.2.2.2.2
  have hc : 0 < f.2.2 ∧ f.2.2 ≤ 1000000 := ⟨hpos.2, hcc.2⟩
  have hbx : -1000000000000 ≤ f.2.1 * x ∧ f.2.1 * x ≤ 1000000000000 := by
    have := q_mul_le (x := f.2.1) (y := x) (M := 1000000) (N := 1000000) ⟨hbb.1, hbb.2⟩ hx (by omega) (by omega)
    omega
  have t1e : (-(L 128 13)) * q_l x = q_l (-(f.2.1 * x)) := by rw [hL.1, q_l_neg, q_l_mul, Int.neg_mul]
  have wz : (q_l w = (0 : Int64)) ↔ w = 0 := by rw [q_l0, q_l_eq ⟨by omega, by omega⟩ (by decide)]
  have dx : d * x * x = d * (x * x) := Int.mul_assoc _ _ _
  have sol : ∀ q, q_ev f q = n → q.1 = x → 2 * f.2.2 * q.2 = -(f.2.1 * x) - w ∨ 2 * f.2.2 * q.2 = -(f.2.1 * x) + w := by
    intro q hq hqx
    have h3 := q_ev_sq2 hF.1 q
    rw [hq, hqx] at h3
    have h4 : (2 * f.2.2 * q.2 + f.2.1 * x) * (2 * f.2.2 * q.2 + f.2.1 * x) = w * w := by omega
    rcases q_sq_pm h4 with h | h
    · exact Or.inr (by omega)
    · exact Or.inl (by omega)
  have los : ∀ q : Int × Int, q.1 = x → (2 * f.2.2 * q.2 = -(f.2.1 * x) - w ∨ 2 * f.2.2 * q.2 = -(f.2.1 * x) + w) → q_ev f q = n := by
    intro q hqx hq
    have h3 := q_ev_sq2 hF.1 q
    rw [hqx] at h3
    have h4 : (2 * f.2.2 * q.2 + f.2.1 * x) * (2 * f.2.2 * q.2 + f.2.1 * x) = w * w := by
      rcases hq with h | h
      · rw [show 2 * f.2.2 * q.2 + f.2.1 * x = -w by omega, Int.neg_mul_neg]
      · rw [show 2 * f.2.2 * q.2 + f.2.1 * x = w by omega]
    rw [h4] at h3
    exact Int.eq_of_mul_eq_mul_left (show 4 * f.2.2 ≠ 0 by omega) (by omega)
  obtain ⟨k1, e1, I1, a1, a2, a3, a4, a5⟩ := p_X10_tkC (u := -(f.2.1 * x) - w) (t0 := -w) (t1 := -(f.2.1 * x)) (w := w) l2 l3 l5 0 hc hL.2 (by omega) ⟨by omega, by omega⟩ (by omega) hR hO (fun q hq => Or.inl hq.2)
  have b1 : B_X10_takes_159 (l2, l3, l5, q_i m, q_l x, q_l w, 0, (I, L)) = some ((l2, l3, l5, q_i ((m + k1 : Nat) : Int), q_l x, q_l w, 1, (I1, L)), 0) := by
    have a1 : T_X10_takes_197 (I, L) l2 l3 l5 (q_i m) (q_l x) (q_l w) 0 (q_l (-w)) (q_l (-(f.2.1 * x))) = some ((l2, l3, l5, q_i ((m + k1 : Nat) : Int), q_l x, q_l w, 1, (I1, L)), 0) := a1
    simp only [B_X10_takes_159, T_X10_takes_173]
    by_cases c : w = 0
    · rw [if_pos (wz.mpr c), if_neg (by decide), if_pos trivial, t1e, q_l_neg]
      exact a1
    · rw [if_neg (fun q => c (wz.mp q)), if_neg (by decide), if_pos trivial, t1e, q_l_neg]
      exact a1
  by_cases c : w = 0
  · have b2 : B_X10_takes_159 (l2, l3, l5, q_i ((m + k1 : Nat) : Int), q_l x, q_l w, 1, (I1, L)) = some ((l2, l3, l5, q_i ((m + k1 : Nat) : Int), q_l x, q_l w, 1, (I1, L)), 1) := by
      simp only [B_X10_takes_159, T_X10_takes_173]
      rw [if_pos (wz.mpr c), if_pos (by decide)]
    refine ⟨k1, e1, I1, 1, q_lp_mono ((q_lp_go (n := 1) b1).trans (q_lp_end (n := 0) b2)) (by decide), by omega, q_rn2_cong a3 (fun q => ?_), a4, a5⟩
    refine ⟨fun h => ?_, fun h => ?_⟩
    · rcases h with h | ⟨h, h2⟩
      · exact ⟨h.1, by have := h.2; omega⟩
      · exact ⟨los q h (Or.inl h2), by omega⟩
    · by_cases cx : q.1 = x
      · rcases sol q h.1 cx with h2 | h2
        · exact Or.inr ⟨cx, h2⟩
        · exact Or.inr ⟨cx, by omega⟩
      · exact Or.inl ⟨h.1, by have := h.2; omega⟩
  · obtain ⟨k2, e2, I2, d1, d2, d3, d4, d5⟩ := p_X10_tkC (u := -(f.2.1 * x) + w) (t0 := w) (t1 := -(f.2.1 * x)) (w := w) (I := I1) l2 l3 l5 1 hc hL.2 (by omega) ⟨by omega, by omega⟩ (by omega) a3 a4 (fun q hq => by
      rcases hq with h | ⟨h, h2⟩
      · exact Or.inl h.2
      · exact Or.inr ⟨h, by omega⟩)
    have b2 : B_X10_takes_159 (l2, l3, l5, q_i ((m + k1 : Nat) : Int), q_l x, q_l w, 1, (I1, L)) = some ((l2, l3, l5, q_i ((m + k1 + k2 : Nat) : Int), q_l x, q_l w, 2, (I2, L)), 0) := by
      have d1 : T_X10_takes_197 (I1, L) l2 l3 l5 (q_i ((m + k1 : Nat) : Int)) (q_l x) (q_l w) 1 (q_l w) (q_l (-(f.2.1 * x))) = some ((l2, l3, l5, q_i ((m + k1 + k2 : Nat) : Int), q_l x, q_l w, 2, (I2, L)), 0) := d1
      simp only [B_X10_takes_159, T_X10_takes_173]
      rw [if_neg (fun q => c (wz.mp q)), if_neg (by decide), if_neg (by decide), t1e]
      exact d1
    have b3 : B_X10_takes_159 (l2, l3, l5, q_i ((m + k1 + k2 : Nat) : Int), q_l x, q_l w, 2, (I2, L)) = some ((l2, l3, l5, q_i ((m + k1 + k2 : Nat) : Int), q_l x, q_l w, 2, (I2, L)), 1) := by
      simp only [B_X10_takes_159, T_X10_takes_173]
      rw [if_neg (fun q => c (wz.mp q)), if_pos (by decide)]
    rw [Nat.add_assoc] at d3 d4 b2 b3
    refine ⟨k1 + k2, e2, I2, 2, ?_, by omega, q_rn2_cong d3 (fun q => ?_), d4, fun j a b => (d5 j a b).trans (a5 j a b)⟩
    · exact q_lp_mono ((q_lp_go (n := 2) b1).trans ((q_lp_go (n := 1) b2).trans (q_lp_end (n := 0) b3))) (by decide)
    · refine ⟨fun h => ?_, fun h => ?_⟩
      · rcases h with (h | ⟨h, h2⟩) | ⟨h, h2⟩
        · exact ⟨h.1, by have := h.2; omega⟩
        · exact ⟨los q h (Or.inl h2), by omega⟩
        · exact ⟨los q h (Or.inr h2), by omega⟩
      · by_cases cx : q.1 = x
        · rcases sol q h.1 cx with h2 | h2
          · exact Or.inl (Or.inr ⟨cx, h2⟩)
          · exact Or.inr ⟨cx, h2⟩
        · exact Or.inl (Or.inl ⟨h.1, by have := h.2; omega⟩)
