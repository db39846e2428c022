/-! the shelf and the log -/
def q_push (e : Int × q_f3) (lg : Nat → Int × q_f3) : Nat → Int × q_f3 := fun i => if i = 0 then e else lg (i - 1)
def q_put (sh : Nat → q_f3) (x : Nat) (f : q_f3) : Nat → q_f3 := fun i => if i = x then f else sh i
theorem p_X1_copy {o p : Nat} {z : q_Z} {f : q_f3} (h : q_3 (z.2 p) 0 f) : F_X1_copy o p z = some ((), (z.1, q_v3 z.2 o f)) := by
  obtain ⟨h1, h2, h3⟩ := h
  unfold F_X1_copy F_X1_put
  rw [h1, show z.2 p 1 = _ from h2, show z.2 p 2 = _ from h3]
  rfl
theorem q_v3_3 (L : Nat → Nat → Int64) (o : Nat) (f : q_f3) : q_3 (q_v3 L o f o) 0 f := q_v3_at L o f
/-- remember() of the class -/
theorem p_X6_remember {o m : Nat} {z : q_Z} {lg : Nat → Int × q_f3} {p : Int} {f : q_f3} (h : q_Cl m lg z) (hm : m ≤ 60) (h3 : q_3 (z.2 o) 0 f) : ∃ z2, F_X6_remember o z (q_i p) = some ((), z2) ∧ q_Cl (min (m + 1) 60) (q_push (p, f) lg) z2 ∧ (∀ n, n ≠ 17 → n ≠ 120 → z2.1 n = z.1 n) ∧ (∀ k, k ≠ 4 → k ≠ 5 → z2.1 17 k = z.1 17 k) ∧ ∀ n, (n < 60 ∨ 120 ≤ n) → z2.2 n = z.2 n := by
  obtain ⟨nx, h1, h4, h5, h6⟩ := h
  obtain ⟨ny, hy⟩ : ∃ ny, ny = (nx + 1) % 60 := ⟨_, rfl⟩
  have eC : F_X1_copy (60 + nx) o (q_u2 z.1 120 nx (q_i p), z.2) = some ((), (q_u2 z.1 120 nx (q_i p), q_v3 z.2 (60 + nx) f)) := p_X1_copy (z := (q_u2 z.1 120 nx (q_i p), z.2)) h3
  have e17 : ∀ k, q_u2 z.1 120 nx (q_i p) 17 k = z.1 17 k := fun k => by rw [q_u2_ne (by decide)]
  have eT : ∀ t, T_X6_remember_68 (q_u2 z.1 120 nx (q_i p), q_v3 z.2 (60 + nx) f) t = some ((), (q_u2 (q_u2 (q_u2 z.1 120 nx (q_i p)) 17 5 t) 17 4 (q_i (min (m + 1) 60 : Nat)), q_v3 z.2 (60 + nx) f)) := by
    intro t
    unfold T_X6_remember_68
    dsimp only
    rw [e17, h4, q_i1, q_i_add, show (60 : Int32) = q_i 60 from rfl, p_J9_min ⟨by omega, by omega⟩ (by decide), Option.bind_some, show min ((m : Int) + 1) 60 = ((min (m + 1) 60 : Nat) : Int) by omega]
  refine ⟨(q_u2 (q_u2 (q_u2 z.1 120 nx (q_i p)) 17 5 (q_i ny)) 17 4 (q_i (min (m + 1) 60 : Nat)), q_v3 z.2 (60 + nx) f), ?_, ⟨ny, by omega, rfl, rfl, ?_⟩, ?_, ?_, ?_⟩
  · unfold F_X6_remember T_X6_remember_46
    rw [h5, q_i_toInt ⟨by omega, by omega⟩, q_i0, if_neg (by rw [q_i_lt ⟨by omega, by omega⟩ (by decide)]; omega), show (60 : Int32) = q_i 60 from rfl, if_pos (by rw [q_i_lt ⟨by omega, by omega⟩ (by decide)]; omega), if_pos (by omega), q_clamp ⟨by omega, by omega⟩, show ((nx : Int)).toNat = nx by omega, p_R59 nx h1]
    dsimp only
    rw [eC, Option.bind_some]
    dsimp only
    by_cases c : nx = 59
    · rw [if_pos (by rw [e17, h5, c]; decide), eT, show (ny : Nat) = 0 by omega]
      rfl
    · rw [if_neg (by rw [e17, h5, q_i1, q_i_add, q_i_eq ⟨by omega, by omega⟩ (by decide)]; omega), e17, h5, q_i1, q_i_add, eT, show (nx : Int) + 1 = (ny : Int) by omega]
  · intro i hi
    have r120 : ∀ k, (q_u2 (q_u2 (q_u2 z.1 120 nx (q_i p)) 17 5 (q_i ny)) 17 4 (q_i (min (m + 1) 60 : Nat))) 120 k = if k = nx then q_i p else z.1 120 k := by
      intro k
      rw [q_u2_ne (by decide), q_u2_ne (by decide), q_u2_at]
    cases i with
    | zero =>
      have e : (ny + 59 - 0) % 60 = nx := by omega
      rw [e]
      refine ⟨?_, fun _ => q_v3_3 z.2 (60 + nx) f⟩
      show (q_u2 (q_u2 (q_u2 z.1 120 nx (q_i p)) 17 5 (q_i ny)) 17 4 (q_i (min (m + 1) 60 : Nat))) 120 nx = _
      rw [r120, if_pos rfl]
      rfl
    | succ j =>
      have e : (ny + 59 - (j + 1)) % 60 = (nx + 59 - j) % 60 := by omega
      have e2 : (nx + 59 - j) % 60 ≠ nx := by omega
      obtain ⟨g1, g2⟩ := h6 j (by omega)
      rw [e]
      refine ⟨?_, fun q => ?_⟩
      · show (q_u2 (q_u2 (q_u2 z.1 120 nx (q_i p)) 17 5 (q_i ny)) 17 4 (q_i (min (m + 1) 60 : Nat))) 120 _ = _
        rw [r120, if_neg e2]
        exact g1
      · show q_3 (q_v3 z.2 (60 + nx) f (60 + (nx + 59 - j) % 60)) 0 _
        rw [q_v3_ne (by omega)]
        exact g2 q
  · intro n a1 a2
    show q_u2 (q_u2 (q_u2 z.1 120 nx (q_i p)) 17 5 (q_i ny)) 17 4 _ n = z.1 n
    rw [q_u2_ne a1, q_u2_ne a1, q_u2_ne a2]
  · intro k a1 a2
    show q_u2 (q_u2 (q_u2 z.1 120 nx (q_i p)) 17 5 (q_i ny)) 17 4 _ 17 k = z.1 17 k
    rw [q_u2_at, if_neg a1, q_u2_at, if_neg a2, q_u2_ne (by decide)]
  · intro n a1
    exact q_v3_ne (by omega)
/-! the reference's log -/
def q_sh4 (j : Nat) (L : Nat → Nat → Int64) : Nat → Nat → Int64 := fun n k => if n = 130 ∧ k + 4 < j then L 130 (k + 4) else L n k
theorem p_X10_act_shift {I : Nat → Nat → Int32} {L : Nat → Nat → Int64} (l1 : Int32) : ∀ (r j : Nat), j + r = 240 → 4 ≤ j → q_lp B_X10_act_11 (r + 1) (l1, q_i j, (I, q_sh4 j L)) = some ((l1, q_i 240, (I, q_sh4 240 L)), 0) := by
  intro r
  induction r with
  | zero =>
    intro j hj h4
    have e : j = 240 := by omega
    subst e
    refine q_lp_end ?_
    simp only [B_X10_act_11]
    rw [if_pos (by decide)]
    rfl
  | succ r ih =>
    intro j hj h4
    rw [← ih (j + 1) (by omega) (by omega)]
    refine q_lp_go ?_
    simp only [B_X10_act_11]
    rw [show (240 : Int32) = q_i 240 from rfl, if_neg (by rw [q_i_le (by decide) ⟨by omega, by omega⟩]; omega), show (4 : Int32) = q_i 4 from rfl, q_i_sub, q_i_toInt ⟨by omega, by omega⟩, q_i_toInt ⟨by omega, by omega⟩, if_pos (by omega), if_pos (by omega), q_clamp ⟨by omega, by omega⟩, q_clamp ⟨by omega, by omega⟩, q_i1, q_i_add, show ((j : Int) - 4).toNat = j - 4 by omega, show ((j : Int)).toNat = j by omega, show (j : Int) + 1 = ((j + 1 : Nat) : Int) by omega]
    have e : q_u2 (q_sh4 j L) 130 (j - 4) (q_sh4 j L 130 j) = q_sh4 (j + 1) L := by
      funext n k
      unfold q_u2 q_sh4
      by_cases hn : n = 130
      · subst hn
        by_cases hk : k = j - 4
        · subst hk
          rw [if_pos rfl, if_pos rfl, if_neg (by omega), if_pos (by omega), show j - 4 + 4 = j by omega]
        · rw [if_pos rfl, if_neg hk]
          by_cases c : k + 4 < j
          · rw [if_pos ⟨rfl, c⟩, if_pos ⟨rfl, by omega⟩]
          · rw [if_neg (by omega), if_neg (by omega)]
      · rw [if_neg hn, if_neg (by omega), if_neg (by omega)]
    rw [e]
/-- one act laid down, with no shift -/
theorem p_X10_act_48 {m n : Nat} {I : Nat → Nat → Int32} {L : Nat → Nat → Int64} {lg : Nat → Int × q_f3} {sh : Nat → q_f3} {p : Int} {f : q_f3} (h : q_Ml m lg (I, L)) (hm : m < 60) (hn : n ≤ 40) (hs : ∀ i, i < n → q_3 (L 129) (3 * i) (sh i)) (hp : p = -1 ∨ (0 ≤ p ∧ p < n ∧ f = sh p.toNat)) : ∃ L2, T_X10_act_48 (I, L) (q_i p) = some ((), (q_u2 I 128 7 (q_i ((m + 1 : Nat) : Int)), L2)) ∧ q_Ml (m + 1) (q_push (p, f) lg) (q_u2 I 128 7 (q_i ((m + 1 : Nat) : Int)), L2) ∧ ∀ k, k ≠ 130 → L2 k = L k := by
  obtain ⟨h1, h2⟩ := h
  have h1 : I 128 7 = q_i m := h1
  have hpb : q_b p := by rcases hp with q | q <;> exact ⟨by omega, by omega⟩
  obtain ⟨v0, v1, v2, hv⟩ : ∃ v0 v1 v2 : Int64, (∀ L3 : Nat → Nat → Int64, L3 129 = L 129 → ∀ j : Nat, j < 3 → B_X10_act_63 (q_i p, q_i j, (I, L3)) = some ((q_i p, q_i ((j + 1 : Nat) : Int), (I, q_u2 L3 130 (4 * m + 1 + j) (if j = 0 then v0 else if j = 1 then v1 else v2))), 0)) ∧ (p ≠ -1 → v0 = q_l f.1 ∧ v1 = q_l f.2.1 ∧ v2 = q_l f.2.2) := by
    have idx : ∀ j : Nat, j < 3 → ((4 : Int32) * q_i m + 1) + q_i j = q_i ((4 * m + 1 + j : Nat) : Int) := by
      intro j hj
      rw [show (4 : Int32) = q_i 4 from rfl, q_i1, q_i_mul, q_i_add, q_i_add, show (4 : Int) * m + 1 + j = ((4 * m + 1 + j : Nat) : Int) by omega]
    by_cases c : p = -1
    · refine ⟨0, 0, 0, ?_, fun q => absurd c q⟩
      intro L3 e3 j hj
      simp only [B_X10_act_63, T_X10_act_101]
      rw [show (3 : Int32) = q_i 3 from rfl, if_neg (by rw [q_i_le (by decide) ⟨by omega, by omega⟩]; omega), c, if_pos (by decide), h1, idx j hj, q_i_toInt ⟨by omega, by omega⟩, if_pos (by omega), q_clamp ⟨by omega, by omega⟩, q_i1, q_i_add, show (j : Int) + 1 = ((j + 1 : Nat) : Int) by omega, show (((4 * m + 1 + j : Nat) : Int)).toNat = 4 * m + 1 + j by omega]
      simp
    · rcases hp with q | ⟨p0, p1, pf⟩
      · exact absurd q c
      · obtain ⟨g1, g2, g3⟩ := hs p.toNat (by omega)
        rw [← pf] at g1 g2 g3
        refine ⟨q_l f.1, q_l f.2.1, q_l f.2.2, ?_, fun _ => ⟨rfl, rfl, rfl⟩⟩
        intro L3 e3 j hj
        simp only [B_X10_act_63, T_X10_act_101]
        rw [show (3 : Int32) = q_i 3 from rfl, if_neg (by rw [q_i_le (by decide) ⟨by omega, by omega⟩]; omega), show (-1 : Int32) = q_i (-1) from rfl, if_neg (by rw [q_i_eq hpb (by decide)]; omega), h1, idx j hj, q_i_mul, q_i_add, q_i_toInt ⟨by omega, by omega⟩, q_i_toInt ⟨by omega, by omega⟩, if_pos (by omega), if_pos (by omega), q_clamp ⟨by omega, by omega⟩, q_clamp ⟨by omega, by omega⟩, q_i1, q_i_add, show (j : Int) + 1 = ((j + 1 : Nat) : Int) by omega, show (((4 * m + 1 + j : Nat) : Int)).toNat = 4 * m + 1 + j by omega, e3]
        have : j = 0 ∨ j = 1 ∨ j = 2 := by omega
        rcases this with e | e | e
        · subst e
          rw [show (3 * p + ((0 : Nat) : Int)).toNat = 3 * p.toNat by omega, g1]
          rfl
        · subst e
          rw [show (3 * p + ((1 : Nat) : Int)).toNat = 3 * p.toNat + 1 by omega, g2]
          rfl
        · subst e
          rw [show (3 * p + ((2 : Nat) : Int)).toNat = 3 * p.toNat + 2 by omega, g3]
          rfl
  refine ⟨q_u2 (q_u2 (q_u2 (q_u2 L 130 (4 * m) (q_l p)) 130 (4 * m + 1) v0) 130 (4 * m + 2) v1) 130 (4 * m + 3) v2, ?_, ⟨rfl, ?_⟩, ?_⟩
  · have a0 := hv.1 (q_u2 L 130 (4 * m) (q_l p)) (q_u2_ne (by decide)) 0 (by omega)
    have a1 := hv.1 (q_u2 (q_u2 L 130 (4 * m) (q_l p)) 130 (4 * m + 1) v0) (by rw [q_u2_ne (by decide), q_u2_ne (by decide)]) 1 (by omega)
    have a2 := hv.1 (q_u2 (q_u2 (q_u2 L 130 (4 * m) (q_l p)) 130 (4 * m + 1) v0) 130 (4 * m + 2) v1) (by rw [q_u2_ne (by decide), q_u2_ne (by decide), q_u2_ne (by decide)]) 2 (by omega)
    have a3 : ∀ zz : q_Z, B_X10_act_63 (q_i p, q_i ((2 + 1 : Nat) : Int), zz) = some ((q_i p, q_i ((2 + 1 : Nat) : Int), zz), 1) := by
      intro zz
      simp only [B_X10_act_63]
      rw [if_pos (by decide)]
    have hl := q_lp_mono ((q_lp_go (n := 3) a0).trans ((q_lp_go (n := 2) a1).trans ((q_lp_go (n := 1) a2).trans (q_lp_end (n := 0) (a3 _))))) (show 4 ≤ q_fu by decide)
    unfold T_X10_act_48
    dsimp only
    have e4 : (4 : Int32) * I 128 7 = q_i (4 * (m : Int)) := by rw [h1, show (4 : Int32) = q_i 4 from rfl, q_i_mul]
    rw [if_pos (by rw [e4, q_i_toInt ⟨by omega, by omega⟩]; omega), e4, q_clamp ⟨by omega, by omega⟩, show (4 * (m : Int)).toNat = 4 * m by omega, q_l_i hpb]
    have hl : q_lp B_X10_act_63 q_fu (q_i p, 0, (I, q_u2 L 130 (4 * m) (q_l p))) = _ := hl
    rw [hl, Option.bind_some]
    dsimp only
    rw [if_pos rfl, h1, q_i1, q_i_add, show (m : Int) + 1 = ((m + 1 : Nat) : Int) by omega]
    rfl
  · have rd : ∀ k, (q_u2 (q_u2 (q_u2 (q_u2 L 130 (4 * m) (q_l p)) 130 (4 * m + 1) v0) 130 (4 * m + 2) v1) 130 (4 * m + 3) v2) 130 k = if k = 4 * m + 3 then v2 else if k = 4 * m + 2 then v1 else if k = 4 * m + 1 then v0 else if k = 4 * m then q_l p else L 130 k := by
      intro k
      rw [q_u2_at, q_u2_at, q_u2_at, q_u2_at]
    intro i hi
    cases i with
    | zero =>
      refine ⟨?_, fun q => ?_⟩
      · show (q_u2 (q_u2 (q_u2 (q_u2 L 130 (4 * m) (q_l p)) 130 (4 * m + 1) v0) 130 (4 * m + 2) v1) 130 (4 * m + 3) v2) 130 (4 * (m + 1 - 1 - 0)) = q_l p
        rw [rd, if_neg (by omega), if_neg (by omega), if_neg (by omega), if_pos (by omega)]
      · have q : p ≠ -1 := q
        obtain ⟨w0, w1, w2⟩ := hv.2 q
        show q_3 ((q_u2 (q_u2 (q_u2 (q_u2 L 130 (4 * m) (q_l p)) 130 (4 * m + 1) v0) 130 (4 * m + 2) v1) 130 (4 * m + 3) v2) 130) (4 * (m + 1 - 1 - 0) + 1) f
        refine ⟨?_, ?_, ?_⟩
        · rw [rd, if_neg (by omega), if_neg (by omega), if_pos (by omega), w0]
        · rw [rd, if_neg (by omega), if_pos (by omega), w1]
        · rw [rd, if_pos (by omega), w2]
    | succ j =>
      obtain ⟨g1, g2⟩ := h2 j (by omega)
      have hj : j < m := by omega
      refine ⟨?_, fun q => ?_⟩
      · show (q_u2 (q_u2 (q_u2 (q_u2 L 130 (4 * m) (q_l p)) 130 (4 * m + 1) v0) 130 (4 * m + 2) v1) 130 (4 * m + 3) v2) 130 (4 * (m + 1 - 1 - (j + 1))) = q_l (lg j).1
        rw [rd, if_neg (by omega), if_neg (by omega), if_neg (by omega), if_neg (by omega), show m + 1 - 1 - (j + 1) = m - 1 - j by omega]
        exact g1
      · obtain ⟨e1, e2, e3⟩ := g2 q
        show q_3 ((q_u2 (q_u2 (q_u2 (q_u2 L 130 (4 * m) (q_l p)) 130 (4 * m + 1) v0) 130 (4 * m + 2) v1) 130 (4 * m + 3) v2) 130) (4 * (m + 1 - 1 - (j + 1)) + 1) (lg j).2
        rw [show m + 1 - 1 - (j + 1) = m - 1 - j by omega]
        refine ⟨?_, ?_, ?_⟩
        · rw [rd, if_neg (by omega), if_neg (by omega), if_neg (by omega), if_neg (by omega)]
          exact e1
        · rw [rd, if_neg (by omega), if_neg (by omega), if_neg (by omega), if_neg (by omega)]
          exact e2
        · rw [rd, if_neg (by omega), if_neg (by omega), if_neg (by omega), if_neg (by omega)]
          exact e3
  · intro k hk
    rw [q_u2_ne hk, q_u2_ne hk, q_u2_ne hk, q_u2_ne hk]
/-- act() of the reference -/
theorem p_X10_act {m n : Nat} {I : Nat → Nat → Int32} {L : Nat → Nat → Int64} {lg : Nat → Int × q_f3} {sh : Nat → q_f3} {p : Int} {f : q_f3} (h : q_Ml m lg (I, L)) (hm : m ≤ 60) (hn : n ≤ 40) (hs : ∀ i, i < n → q_3 (L 129) (3 * i) (sh i)) (hp : p = -1 ∨ (0 ≤ p ∧ p < n ∧ f = sh p.toNat)) : ∃ I2 L2, F_X10_act (I, L) (q_i p) = some ((), (I2, L2)) ∧ q_Ml (min (m + 1) 60) (q_push (p, f) lg) (I2, L2) ∧ (∀ k, k ≠ 128 → I2 k = I k) ∧ (∀ k, k ≠ 7 → I2 128 k = I 128 k) ∧ ∀ k, k ≠ 130 → L2 k = L k := by
  unfold F_X10_act
  dsimp only
  by_cases c : m = 60
  · subst c
    have h59 : q_Ml 59 lg (q_u2 I 128 7 (q_i ((59 : Nat) : Int)), q_sh4 240 L) := by
      refine ⟨rfl, fun i hi => ?_⟩
      obtain ⟨g1, g2⟩ := h.2 i (by omega)
      have rd : ∀ k, k < 236 → q_sh4 240 L 130 k = L 130 (k + 4) := by
        intro k hk
        unfold q_sh4
        rw [if_pos ⟨rfl, by omega⟩]
      refine ⟨?_, fun q => ?_⟩
      · show q_sh4 240 L 130 (4 * (59 - 1 - i)) = _
        rw [rd _ (by omega), show 4 * (59 - 1 - i) + 4 = 4 * (60 - 1 - i) by omega]
        exact g1
      · obtain ⟨e1, e2, e3⟩ := g2 q
        show q_3 (q_sh4 240 L 130) (4 * (59 - 1 - i) + 1) _
        refine ⟨?_, ?_, ?_⟩
        · rw [rd _ (by omega), show 4 * (59 - 1 - i) + 1 + 4 = 4 * (60 - 1 - i) + 1 by omega]
          exact e1
        · rw [rd _ (by omega), show 4 * (59 - 1 - i) + 1 + 1 + 4 = 4 * (60 - 1 - i) + 1 + 1 by omega]
          exact e2
        · rw [rd _ (by omega), show 4 * (59 - 1 - i) + 1 + 2 + 4 = 4 * (60 - 1 - i) + 1 + 2 by omega]
          exact e3
    have rs : ∀ k, k ≠ 130 → q_sh4 240 L k = L k := by
      intro k hk
      funext j
      unfold q_sh4
      rw [if_neg (by omega)]
    obtain ⟨L2, a1, a2, a3⟩ := p_X10_act_48 (n := n) (sh := sh) (p := p) (f := f) h59 (by omega) hn (by rw [rs 129 (by decide)]; exact hs) hp
    refine ⟨_, L2, ?_, a2, ?_, ?_, ?_⟩
    · have sl := q_lp_mono (p_X10_act_shift (I := I) (L := L) (q_i p) 236 4 (by omega) (by omega)) (show 236 + 1 ≤ q_fu by decide)
      have e0 : q_sh4 4 L = L := by
        funext n k
        unfold q_sh4
        rw [if_neg (by omega)]
      rw [e0] at sl
      have sl : q_lp B_X10_act_11 q_fu (q_i p, 4, (I, L)) = _ := sl
      rw [if_pos (show (I 128 7) = (60 : Int32) from h.1), sl, Option.bind_some]
      dsimp only
      rw [if_pos rfl, show I 128 7 = q_i 60 from h.1, show q_i 60 - 1 = q_i ((59 : Nat) : Int) from rfl]
      exact a1
    · intro k hk
      rw [q_u2_ne hk, q_u2_ne hk]
    · intro k hk
      rw [q_u2_at, if_neg hk, q_u2_at, if_neg hk]
    · intro k hk
      rw [a3 k hk, rs k hk]
  · obtain ⟨L2, a1, a2, a3⟩ := p_X10_act_48 (n := n) (sh := sh) (p := p) (f := f) h (by omega) hn hs hp
    refine ⟨_, L2, ?_, by rw [show min (m + 1) 60 = m + 1 by omega]; exact a2, ?_, ?_, a3⟩
    · rw [if_neg (by rw [show I 128 7 = q_i m from h.1, show (60 : Int32) = q_i 60 from rfl, q_i_eq ⟨by omega, by omega⟩ (by decide)]; omega)]
      exact a1
    · intro k hk
      rw [q_u2_ne hk]
    · intro k hk
      rw [q_u2_at, if_neg hk]
