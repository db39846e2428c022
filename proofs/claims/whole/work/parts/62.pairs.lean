/-! OUT: pairs by x, then y -/
def q_l2t (p q : Int × Int) : Prop := p.1 < q.1 ∨ (p.1 = q.1 ∧ p.2 < q.2)
theorem q_l2t_irr {p : Int × Int} : ¬ q_l2t p p := by unfold q_l2t; omega
theorem q_l2t_asymm {p q : Int × Int} (h : q_l2t p q) : ¬ q_l2t q p := by unfold q_l2t at *; omega
theorem q_l2t_trans {p q r : Int × Int} (h1 : q_l2t p q) (h2 : q_l2t q r) : q_l2t p r := by unfold q_l2t at *; omega
theorem q_l2t_tri (p q : Int × Int) : p = q ∨ q_l2t p q ∨ q_l2t q p := by
  by_cases c : p.1 = q.1 ∧ p.2 = q.2
  · exact Or.inl (Prod.ext c.1 c.2)
  · unfold q_l2t
    omega
def q_inc (m : Nat) (e : Nat → Int × Int) : Prop := ∀ i j, i < j → j < m → q_l2t (e i) (e j)
/-- all pairs of a kind, in order -/
def q_enu (S : Int × Int → Prop) (m : Nat) (e : Nat → Int × Int) : Prop := q_inc m e ∧ (∀ i, i < m → S (e i)) ∧ ∀ p, S p → ∃ i, i < m ∧ e i = p
theorem q_enu_uni {S : Int × Int → Prop} {n m : Nat} {T U : Nat → Int × Int} (hT : q_enu S n T) (hU : q_enu S m U) : n = m ∧ ∀ i, i < n → T i = U i := by
  have key : ∀ i, i < n → i < m → T i = U i := by
    intro i
    induction i using Nat.strongRecOn with
    | ind i ih =>
      intro hn hm
      obtain ⟨k, k1, k2⟩ := hU.2.2 (T i) (hT.2.1 i hn)
      obtain ⟨l, l1, l2⟩ := hT.2.2 (U i) (hU.2.1 i hm)
      rcases Nat.lt_trichotomy k i with c | c | c
      · have e := ih k c (by omega) (by omega)
        rw [k2] at e
        have := hT.1 k i c hn
        rw [e] at this
        exact absurd this q_l2t_irr
      · rw [← k2, c]
      · rcases Nat.lt_trichotomy l i with c2 | c2 | c2
        · have e := ih l c2 (by omega) (by omega)
          rw [l2] at e
          have := hU.1 l i c2 hm
          rw [← e] at this
          exact absurd this q_l2t_irr
        · rw [← l2, c2]
        · have a1 := hU.1 i k c k1
          have a2 := hT.1 i l c2 l1
          rw [k2] at a1
          rw [l2] at a2
          exact absurd a2 (q_l2t_asymm a1)
  have hnm : n = m := by
    rcases Nat.lt_trichotomy n m with c | c | c
    · obtain ⟨l, l1, l2⟩ := hT.2.2 (U n) (hU.2.1 n c)
      have := hU.1 l n l1 c
      rw [← key l l1 (by omega), l2] at this
      exact absurd this q_l2t_irr
    · exact c
    · obtain ⟨l, l1, l2⟩ := hU.2.2 (T m) (hT.2.1 m c)
      have := hT.1 l m l1 c
      rw [key l (by omega) l1, l2] at this
      exact absurd this q_l2t_irr
  exact ⟨hnm, fun i hi => key i hi (by omega)⟩
/-- a pair put in its place -/
def q_ins (e : Nat → Int × Int) (j : Nat) (p : Int × Int) : Nat → Int × Int := fun i => if i < j then e i else if i = j then p else e (i - 1)
theorem q_ins_ex {m : Nat} {e : Nat → Int × Int} {p : Int × Int} (h : q_inc m e) (hp : ∀ i, i < m → e i ≠ p) : ∃ j, j ≤ m ∧ (∀ i, i < j → q_l2t (e i) p) ∧ ∀ i, j ≤ i → i < m → q_l2t p (e i) := by
  obtain ⟨j, j1, j2⟩ := pk_least (fun j => m ≤ j ∨ q_l2t p (e j)) ⟨m, Or.inl (Nat.le_refl m)⟩
  have hj : j ≤ m := by
    rcases Nat.lt_or_ge m j with c | c
    · exact absurd (Or.inl (Nat.le_refl m)) (j2 m c)
    · exact c
  refine ⟨j, hj, fun i hi => ?_, fun i hi him => ?_⟩
  · have h1 : ¬ (m ≤ i ∨ q_l2t p (e i)) := j2 i hi
    rcases q_l2t_tri (e i) p with q | q | q
    · exact absurd q (hp i (by omega))
    · exact q
    · exact absurd (Or.inr q) h1
  · rcases j1 with q | q
    · omega
    · by_cases c : j = i
      · rw [← c]; exact q
      · exact q_l2t_trans q (h j i (by omega) him)
theorem q_ins_inc {m j : Nat} {e : Nat → Int × Int} {p : Int × Int} (h : q_inc m e) (hj : j ≤ m) (h1 : ∀ i, i < j → q_l2t (e i) p) (h2 : ∀ i, j ≤ i → i < m → q_l2t p (e i)) : q_inc (m + 1) (q_ins e j p) := by
  intro a b hab hb
  unfold q_ins
  by_cases c1 : b < j
  · rw [if_pos (by omega), if_pos c1]
    exact h a b hab (by omega)
  · rw [if_neg c1]
    by_cases c2 : b = j
    · rw [if_pos c2, if_pos (by omega)]
      exact h1 a (by omega)
    · rw [if_neg c2]
      by_cases c3 : a < j
      · rw [if_pos c3]
        exact h a (b - 1) (by omega) (by omega)
      · rw [if_neg c3]
        by_cases c4 : a = j
        · rw [if_pos c4]
          exact h2 (b - 1) (by omega) (by omega)
        · rw [if_neg c4]
          exact h (a - 1) (b - 1) (by omega) (by omega)
theorem q_ins_mem {m j : Nat} {e : Nat → Int × Int} {p : Int × Int} (hj : j ≤ m) (q : Int × Int) : (∃ i, i < m + 1 ∧ q_ins e j p i = q) ↔ q = p ∨ ∃ i, i < m ∧ e i = q := by
  unfold q_ins
  constructor
  · intro ⟨i, hi, h⟩
    by_cases c1 : i < j
    · rw [if_pos c1] at h
      exact Or.inr ⟨i, by omega, h⟩
    · rw [if_neg c1] at h
      by_cases c2 : i = j
      · rw [if_pos c2] at h
        exact Or.inl h.symm
      · rw [if_neg c2] at h
        exact Or.inr ⟨i - 1, by omega, h⟩
  · intro h
    rcases h with h | ⟨i, hi, h⟩
    · refine ⟨j, by omega, ?_⟩
      rw [if_neg (by omega), if_pos rfl]
      exact h.symm
    · by_cases c : i < j
      · refine ⟨i, by omega, ?_⟩
        rw [if_pos c]
        exact h
      · refine ⟨i + 1, by omega, ?_⟩
        rw [if_neg (by omega), if_neg (by omega), show i + 1 - 1 = i by omega]
        exact h
/-- the class's rows hold the first 200 -/
def q_Or (m : Nat) (e : Nat → Int × Int) (z : q_Z) : Prop := z.1 122 2 = q_i ((min m 200 : Nat) : Int) ∧ ∀ i, i < min m 200 → z.1 123 i = q_i (e i).1 ∧ z.1 124 i = q_i (e i).2
def q_pb (p : Int × Int) : Prop := q_b p.1 ∧ q_b p.2
theorem p_X4_isAhead {I : Nat → Nat → Int32} {L : Nat → Nat → Int64} {t : Nat} {p q : Int × Int} (ht : t < 200) (h : I 123 t = q_i q.1 ∧ I 124 t = q_i q.2) (hp : q_pb p) (hq : q_pb q) : (q_l2t p q → F_X4_isAhead (I, L) (q_i p.1) (q_i p.2) (q_i t) = some (1, (I, L))) ∧ (q_l2t q p → F_X4_isAhead (I, L) (q_i p.1) (q_i p.2) (q_i t) = some (0, (I, L))) := by
  have l1 : (q_i p.1 < q_i q.1) ↔ p.1 < q.1 := q_i_lt hp.1 hq.1
  have e1 : (q_i p.1 = q_i q.1) ↔ p.1 = q.1 := q_i_eq hp.1 hq.1
  have l2 : (q_i q.2 ≤ q_i p.2) ↔ q.2 ≤ p.2 := q_i_le hq.2 hp.2
  have pre : F_X4_isAhead (I, L) (q_i p.1) (q_i p.2) (q_i t) = if q_i p.1 < q_i q.1 then some (1, (I, L)) else if q_i p.1 = q_i q.1 then (if q_i q.2 ≤ q_i p.2 then some (0, (I, L)) else some (1, (I, L))) else some (0, (I, L)) := by
    unfold F_X4_isAhead T_X4_isAhead_43 T_X4_isAhead_47
    rw [if_neg (by rw [q_i0, q_i_lt ⟨by omega, by omega⟩ (by decide)]; omega), if_pos (by rw [show (200 : Int32) = q_i 200 from rfl, q_i_lt ⟨by omega, by omega⟩ (by decide)]; omega), q_i_toInt ⟨by omega, by omega⟩, if_pos (by omega), q_clamp ⟨by omega, by omega⟩, show ((t : Int)).toNat = t by omega]
    simp only [h.1, h.2]
    rw [if_pos (show 0 ≤ (t : Int) ∧ (t : Int) < 200 by omega), if_pos (show 0 ≤ (t : Int) ∧ (t : Int) < 200 by omega)]
  rw [pre]
  refine ⟨fun hq => ?_, fun hq => ?_⟩
  · by_cases c : p.1 < q.1
    · rw [if_pos (l1.mpr c)]
    · unfold q_l2t at hq
      rw [if_neg (fun w => c (l1.mp w)), if_pos (e1.mpr (by omega)), if_neg (fun w => by have := l2.mp w; omega)]
  · unfold q_l2t at hq
    rw [if_neg (fun w => by have := l1.mp w; omega)]
    by_cases c : p.1 = q.1
    · rw [if_pos (e1.mpr c), if_pos (l2.mpr (by omega))]
    · rw [if_neg (fun w => c (e1.mp w))]
theorem p_X4_insLoop {m j : Nat} {e : Nat → Int × Int} {p : Int × Int} {L : Nat → Nat → Int64} (hp : q_pb p) (hb : ∀ i, i < m → q_pb (e i)) (h1 : ∀ i, i < j → q_l2t (e i) p) (h2 : ∀ i, j ≤ i → i < m → q_l2t p (e i)) : ∀ (r t : Nat) (I : Nat → Nat → Int32), t = min j (min m 200) + r → t ≤ min m 200 → (∀ i, i < t → I 123 i = q_i (e i).1 ∧ I 124 i = q_i (e i).2) → (∀ i, t < i → i < min (m + 1) 200 → I 123 i = q_i (e (i - 1)).1 ∧ I 124 i = q_i (e (i - 1)).2) → ∃ I2, q_lp B_X4_insert_11 (r + 1) (q_i p.1, q_i p.2, q_i t, (I, L)) = some ((q_i p.1, q_i p.2, q_i ((min j (min m 200) : Nat) : Int), (I2, L)), 0) ∧ (∀ i, i < min j (min m 200) → I2 123 i = q_i (e i).1 ∧ I2 124 i = q_i (e i).2) ∧ (∀ i, min j (min m 200) < i → i < min (m + 1) 200 → I2 123 i = q_i (e (i - 1)).1 ∧ I2 124 i = q_i (e (i - 1)).2) ∧ ∀ k, k ≠ 123 → k ≠ 124 → I2 k = I k := by
  intro r
  induction r with
  | zero =>
    intro t I ht htm ha hc
    rw [Nat.add_zero] at ht
    subst ht
    refine ⟨I, q_lp_end ?_, ha, hc, fun _ _ _ => rfl⟩
    simp only [B_X4_insert_11]
    by_cases c0 : min j (min m 200) = 0
    · rw [if_pos (by rw [c0]; decide)]
    · have ia := (p_X4_isAhead (L := L) (t := min j (min m 200) - 1) (p := p) (by omega) (ha _ (by omega)) hp (hb _ (by omega))).2 (h1 _ (by omega))
      rw [if_neg (by rw [q_i0, q_i_le ⟨by omega, by omega⟩ (by decide)]; omega), q_i1, q_i_sub, show ((min j (min m 200) : Nat) : Int) - 1 = ((min j (min m 200) - 1 : Nat) : Int) by omega, ia, Option.bind_some]
      rfl
  | succ r ih =>
    intro t I ht htm ha hc
    have ia := (p_X4_isAhead (L := L) (t := t - 1) (p := p) (by omega) (ha (t - 1) (by omega)) hp (hb _ (by omega))).1 (h2 _ (by omega) (by omega))
    have em : q_i (t : Int) - 1 = q_i ((t - 1 : Nat) : Int) := by rw [q_i1, q_i_sub, show (t : Int) - 1 = ((t - 1 : Nat) : Int) by omega]
    have en : q_i (t : Int) + (-1) = q_i ((t - 1 : Nat) : Int) := by rw [show (-1 : Int32) = q_i (-1) from rfl, q_i_add, show (t : Int) + -1 = ((t - 1 : Nat) : Int) by omega]
    obtain ⟨I1, s1, s2, s3, s4⟩ : ∃ I1, B_X4_insert_11 (q_i p.1, q_i p.2, q_i t, (I, L)) = some ((q_i p.1, q_i p.2, q_i ((t - 1 : Nat) : Int), (I1, L)), 0) ∧ (∀ i, i < t - 1 → I1 123 i = q_i (e i).1 ∧ I1 124 i = q_i (e i).2) ∧ (∀ i, t - 1 < i → i < min (m + 1) 200 → I1 123 i = q_i (e (i - 1)).1 ∧ I1 124 i = q_i (e (i - 1)).2) ∧ ∀ k, k ≠ 123 → k ≠ 124 → I1 k = I k := by
      simp only [B_X4_insert_11, T_X4_insert_62]
      rw [if_neg (by rw [q_i0, q_i_le ⟨by omega, by omega⟩ (by decide)]; omega), em, ia, Option.bind_some]
      dsimp only
      rw [if_neg (by decide), en]
      by_cases c2 : t = 200
      · refine ⟨I, ?_, fun i hi => ha i (by omega), fun i a b => by omega, fun _ _ _ => rfl⟩
        rw [if_pos (by rw [c2]; decide)]
      · obtain ⟨r1, r2⟩ := ha (t - 1) (by omega)
        have et : Int32.toNatClampNeg (q_i (t : Int)) = t := by rw [q_clamp ⟨by omega, by omega⟩]; omega
        have et1 : Int32.toNatClampNeg (q_i ((t - 1 : Nat) : Int)) = t - 1 := by rw [q_clamp ⟨by omega, by omega⟩]; omega
        refine ⟨q_u2 (q_u2 I 123 t (q_i (e (t - 1)).1)) 124 t (q_i (e (t - 1)).2), ?_, ?_, ?_, fun k a b => by rw [q_u2_ne b, q_u2_ne a]⟩
        · rw [if_neg (by rw [show (200 : Int32) = q_i 200 from rfl, q_i_le (by decide) ⟨by omega, by omega⟩]; omega), q_i_toInt ⟨by omega, by omega⟩, q_i_toInt ⟨by omega, by omega⟩, if_pos (by omega), if_pos (by omega), et, et1, r1, r2]
        · intro i hi
          rw [q_u2_ne (show 123 ≠ 124 by decide), q_u2_at, if_neg (by omega), q_u2_at, if_neg (by omega), q_u2_ne (show 124 ≠ 123 by decide)]
          exact ha i (by omega)
        · intro i a b
          rw [q_u2_ne (show 123 ≠ 124 by decide), q_u2_at, q_u2_at, q_u2_ne (show 124 ≠ 123 by decide)]
          by_cases c : i = t
          · rw [if_pos c, if_pos c, c]
            exact ⟨rfl, rfl⟩
          · rw [if_neg c, if_neg c]
            exact hc i (by omega) b
    obtain ⟨I2, g1, g2, g3, g4⟩ := ih (t - 1) I1 (by omega) (by omega) s2 s3
    exact ⟨I2, by rw [q_lp_go s1]; exact g1, g2, g3, fun k a b => (g4 k a b).trans (s4 k a b)⟩
/-- insert() -/
theorem p_X4_insert {m : Nat} {e : Nat → Int × Int} {p : Int × Int} {z : q_Z} (hinc : q_inc m e) (hO : q_Or m e z) (hp : q_pb p) (hb : ∀ i, i < m → q_pb (e i)) (hne : ∀ i, i < m → e i ≠ p) : ∃ e2 I2, F_X4_insert z (q_i p.1) (q_i p.2) = some ((), (I2, z.2)) ∧ q_inc (m + 1) e2 ∧ (∀ q, (∃ i, i < m + 1 ∧ e2 i = q) ↔ q = p ∨ ∃ i, i < m ∧ e i = q) ∧ q_Or (m + 1) e2 (I2, z.2) ∧ ∀ k, k ≠ 122 → k ≠ 123 → k ≠ 124 → I2 k = z.1 k := by
  obtain ⟨j, j1, j2, j3⟩ := q_ins_ex hinc hne
  obtain ⟨I1, g1, g2, g3, g4⟩ := p_X4_insLoop (L := z.2) hp hb j2 j3 (min m 200 - min j (min m 200)) (min m 200) z.1 (by omega) (Nat.le_refl _) hO.2 (fun i a b => by omega)
  have g1 := q_lp_mono g1 (show min m 200 - min j (min m 200) + 1 ≤ q_fu by unfold q_fu; omega)
  have c2 : I1 122 2 = q_i ((min m 200 : Nat) : Int) := by rw [g4 122 (by decide) (by decide)]; exact hO.1
  have t93 : ∀ J : Nat → Nat → Int32, J 122 2 = q_i ((min m 200 : Nat) : Int) → T_X4_insert_93 (J, z.2) = some ((), (q_u2 J 122 2 (q_i ((min (m + 1) 200 : Nat) : Int)), z.2)) := by
    intro J hJ
    unfold T_X4_insert_93
    dsimp only
    rw [hJ, q_i1, q_i_add, show (200 : Int32) = q_i 200 from rfl, p_J9_min ⟨by omega, by omega⟩ (by decide), Option.bind_some, show min (((min m 200 : Nat) : Int) + 1) 200 = ((min (m + 1) 200 : Nat) : Int) by omega]
  have pre : ∀ o, T_X4_insert_68 (I1, z.2) (q_i p.1) (q_i p.2) (q_i ((min j (min m 200) : Nat) : Int)) = o → F_X4_insert z (q_i p.1) (q_i p.2) = o := by
    intro o ho
    unfold F_X4_insert
    rw [hO.1, show (200 : Int32) = q_i 200 from rfl, p_J9_min ⟨by omega, by omega⟩ (by decide), Option.bind_some]
    dsimp only
    rw [show min ((min m 200 : Nat) : Int) 200 = ((min m 200 : Nat) : Int) by omega]
    have g1 : q_lp B_X4_insert_11 q_fu (q_i p.1, q_i p.2, q_i ((min m 200 : Nat) : Int), z) = _ := g1
    rw [g1, Option.bind_some]
    dsimp only
    rw [if_pos rfl]
    exact ho
  refine ⟨q_ins e j p, ?_⟩
  by_cases cw : min j (min m 200) < 200
  · have hjj : min j (min m 200) = j := by omega
    refine ⟨q_u2 (q_u2 (q_u2 I1 123 j (q_i p.1)) 124 j (q_i p.2)) 122 2 (q_i ((min (m + 1) 200 : Nat) : Int)), pre _ ?_, q_ins_inc hinc j1 j2 j3, q_ins_mem j1, ⟨rfl, ?_⟩, ?_⟩
    · unfold T_X4_insert_68
      rw [hjj, if_neg (by rw [q_i0, q_i_lt ⟨by omega, by omega⟩ (by decide)]; omega), if_neg (by rw [show (200 : Int32) = q_i 200 from rfl, q_i_le (by decide) ⟨by omega, by omega⟩]; omega), q_i_toInt ⟨by omega, by omega⟩, if_pos (by omega), q_clamp ⟨by omega, by omega⟩, show ((j : Int)).toNat = j by omega]
      exact t93 _ (by rw [q_u2_ne (by decide), q_u2_ne (by decide)]; exact c2)
    · intro i hi
      show q_u2 (q_u2 (q_u2 I1 123 j (q_i p.1)) 124 j (q_i p.2)) 122 2 (q_i ((min (m + 1) 200 : Nat) : Int)) 123 i = _ ∧ q_u2 (q_u2 (q_u2 I1 123 j (q_i p.1)) 124 j (q_i p.2)) 122 2 (q_i ((min (m + 1) 200 : Nat) : Int)) 124 i = _
      rw [q_u2_ne (show 123 ≠ 122 by decide), q_u2_ne (show 124 ≠ 122 by decide), q_u2_ne (show 123 ≠ 124 by decide), q_u2_at, q_u2_at, q_u2_ne (show 124 ≠ 123 by decide)]
      unfold q_ins
      by_cases c1 : i < j
      · have hij : i ≠ j := by omega
        rw [if_pos c1, if_neg hij, if_neg hij]
        exact g2 i (by omega)
      · rw [if_neg c1]
        by_cases c3 : i = j
        · rw [if_pos c3, if_pos c3, if_pos c3]
          exact ⟨rfl, rfl⟩
        · rw [if_neg c3, if_neg c3, if_neg c3]
          exact g3 i (by omega) hi
    · intro k a b c
      rw [q_u2_ne a, q_u2_ne c, q_u2_ne b, g4 k b c]
  · refine ⟨q_u2 I1 122 2 (q_i ((min (m + 1) 200 : Nat) : Int)), pre _ ?_, q_ins_inc hinc j1 j2 j3, q_ins_mem j1, ⟨rfl, ?_⟩, ?_⟩
    · unfold T_X4_insert_68
      rw [if_neg (by rw [q_i0, q_i_lt ⟨by omega, by omega⟩ (by decide)]; omega), if_pos (by rw [show (200 : Int32) = q_i 200 from rfl, q_i_le (by decide) ⟨by omega, by omega⟩]; omega)]
      exact t93 _ c2
    · intro i hi
      show q_u2 I1 122 2 (q_i ((min (m + 1) 200 : Nat) : Int)) 123 i = _ ∧ q_u2 I1 122 2 (q_i ((min (m + 1) 200 : Nat) : Int)) 124 i = _
      rw [q_u2_ne (show 123 ≠ 122 by decide), q_u2_ne (show 124 ≠ 122 by decide)]
      unfold q_ins
      rw [if_pos (by omega)]
      exact g2 i (by omega)
    · intro k a b c
      rw [q_u2_ne a, g4 k b c]
