/-! takes of the class -/
def q_tkI (W : q_z4) (g : q_f3) (n : Int) (Q : Int × Int → Prop) (m : Nat) (e : Nat → Int × Int) : Prop := q_inc m e ∧ (∀ q, (∃ i, i < m ∧ e i = q) ↔ ∃ p, Q p ∧ q = q_ph W p) ∧ ∀ p, Q p → q_ev g p = n
def q_tkN (Q : Int × Int → Prop) (A u Y : Int) (p : Int × Int) : Prop := Q p ∨ ∃ X, u = 2 * A * X ∧ (p = (X, Y) ∨ (Y ≠ 0 ∧ p = (-X, -Y)))
theorem p_X9_keepTaken {d n u Y : Int} {f g : q_f3} {W : q_z4} {Q : Int × Int → Prop} {m : Nat} {e : Nat → Int × Int} {z : q_Z} (hd : d < 0) (hG : q_G d f) (h1 : 1 ≤ n) (h2 : n ≤ 100000) (hph : ∀ p, q_ev f (q_ph W p) = q_ev g p) (hdet : q_det W = 1) (hA : 0 < g.1 ∧ g.1 ≤ 63) (hg3 : q_3 (z.2 126) 0 g) (hw : z.2 127 0 = q_l W.1 ∧ z.2 127 1 = q_l W.2.1 ∧ z.2 127 2 = q_l W.2.2.1 ∧ z.2 127 3 = q_l W.2.2.2) (hu : -1000000000 ≤ u ∧ u ≤ 1000000000) (hY : 0 ≤ Y ∧ Y ≤ 100000) (hI : q_tkI W g n Q m e) (hO : q_Or m e z) (hnew : ∀ X, u = 2 * g.1 * X → q_ev g (X, Y) = n ∧ ¬ Q (X, Y) ∧ (Y ≠ 0 → ¬ Q (-X, -Y))) : ∃ (k : Nat) (e2 : Nat → Int × Int) (I2 : Nat → Nat → Int32), F_X9_keepTaken z (q_l u) (q_l Y) = some (q_i k, (I2, z.2)) ∧ k ≤ 2 ∧ q_tkI W g n (q_tkN Q g.1 u Y) (m + k) e2 ∧ q_Or (m + k) e2 (I2, z.2) ∧ ∀ j, j ≠ 122 → j ≠ 123 → j ≠ 124 → I2 j = z.1 j := by
  obtain ⟨i1, i2, i3⟩ := hI
  have e2A : 2 * z.2 126 0 = q_l (2 * g.1) := by rw [hg3.1, q_l2, q_l_mul]
  have hne : ¬ (2 * z.2 126 0 = (0 : Int64)) := by rw [e2A, q_l0, q_l_eq ⟨by omega, by omega⟩ (by decide)]; omega
  have pbs : ∀ q, q_ev f q = n → q_pb q := fun q hq => by
    have := q_tk_b hd hG h1 h2 hq
    exact ⟨⟨by omega, by omega⟩, ⟨by omega, by omega⟩⟩
  have hbe : ∀ i, i < m → q_pb (e i) := by
    intro i hi
    obtain ⟨p, p1, p2⟩ := (i2 (e i)).mp ⟨i, hi, rfl⟩
    rw [p2]
    exact pbs _ (by rw [hph]; exact i3 p p1)
  have hB : q_B u := ⟨by omega, by omega⟩
  have hrem : (q_l u - q_l u / (2 * z.2 126 0) * (2 * z.2 126 0) = (0 : Int64)) ↔ (2 * g.1) ∣ u := by
    rw [e2A, q_l_rem hB ⟨by omega, by omega⟩ (q_tdivB hB ⟨by omega, by omega⟩), q_l0]
    have hb2 : q_B (u.tmod (2 * g.1)) := by
      have h3 : (u.tmod (2 * g.1)).natAbs ≤ u.natAbs := by rw [Int.natAbs_tmod]; exact Nat.mod_le _ _
      constructor <;> omega
    rw [q_l_eq hb2 (by decide), q_dvd_tmod]
  unfold F_X9_keepTaken T_X9_keepTaken_29
  rw [if_neg hne, if_pos hne]
  by_cases c : (2 * g.1) ∣ u
  · obtain ⟨X, hX⟩ := c
    obtain ⟨n1, n2, n3⟩ := hnew X hX
    have ed : q_l u / (2 * z.2 126 0) = q_l X := by
      have e1 : u.tdiv (2 * g.1) = X := by rw [hX]; exact Int.mul_tdiv_cancel_left _ (by omega)
      rw [e2A, q_l_div hB ⟨by omega, by omega⟩ (q_tdivB hB ⟨by omega, by omega⟩), e1]
    have eX : Int64.toInt32 (z.2 127 0 * (q_l u / (2 * z.2 126 0)) + z.2 127 1 * q_l Y) = q_i (q_ph W (X, Y)).1 := by
      rw [ed, hw.1, hw.2.1, q_l_mul, q_l_mul, q_l_add, q_i_l]
      rfl
    have eY : Int64.toInt32 (z.2 127 2 * (q_l u / (2 * z.2 126 0)) + z.2 127 3 * q_l Y) = q_i (q_ph W (X, Y)).2 := by
      rw [ed, hw.2.2.1, hw.2.2.2, q_l_mul, q_l_mul, q_l_add, q_i_l]
      rfl
    have notin : ∀ p, ¬ Q p → ∀ i, i < m → e i ≠ q_ph W p := by
      intro p hp i hi he
      obtain ⟨p', p1, p2⟩ := (i2 (q_ph W p)).mp ⟨i, hi, he⟩
      have := q_ph_inj hdet p2
      rw [this] at hp
      exact hp p1
    obtain ⟨e2, I2, a1, a2, a3, a4, a5⟩ := p_X4_insert (p := q_ph W (X, Y)) i1 hO (pbs _ (by rw [hph]; exact n1)) hbe (notin _ n2)
    rw [if_pos (hrem.mpr ⟨X, hX⟩), if_pos hne, eX, eY, a1, Option.bind_some]
    dsimp only
    have hXu : ∀ X', u = 2 * g.1 * X' → X' = X := fun X' h' => Int.eq_of_mul_eq_mul_left (show 2 * g.1 ≠ 0 by omega) (by omega)
    by_cases cY : Y = 0
    · refine ⟨1, e2, I2, ?_, by omega, ⟨a2, fun q => ?_, fun p hp => ?_⟩, a4, a5⟩
      · rw [if_pos (by rw [cY]; rfl)]
        rfl
      · rw [a3 q]
        constructor
        · intro h
          rcases h with h | h
          · exact ⟨(X, Y), Or.inr ⟨X, hX, Or.inl rfl⟩, h⟩
          · obtain ⟨p, p1, p2⟩ := (i2 q).mp h
            exact ⟨p, Or.inl p1, p2⟩
        · intro ⟨p, p1, p2⟩
          rcases p1 with p1 | ⟨X', x1, x2⟩
          · exact Or.inr ((i2 q).mpr ⟨p, p1, p2⟩)
          · rcases x2 with x2 | ⟨x2, _⟩
            · rw [x2, hXu X' x1] at p2
              exact Or.inl p2
            · exact absurd cY x2
      · rcases hp with hp | ⟨X', x1, x2⟩
        · exact i3 p hp
        · rcases x2 with x2 | ⟨x2, _⟩
          · rw [x2, hXu X' x1]
            exact n1
          · exact absurd cY x2
    · have en : (-(q_i (q_ph W (X, Y)).1) = q_i (q_ph W (-X, -Y)).1) ∧ (-(q_i (q_ph W (X, Y)).2) = q_i (q_ph W (-X, -Y)).2) := by
        have := q_ph_neg W (X, Y)
        have this : q_ph W (-X, -Y) = (-(q_ph W (X, Y)).1, -(q_ph W (X, Y)).2) := this
        rw [this, q_i_neg, q_i_neg]
        exact ⟨rfl, rfl⟩
      have n4 : q_ev g (-X, -Y) = n := by
        have := q_ev_neg g (X, Y)
        exact this.trans n1
      have hbe2 : ∀ i, i < m + 1 → q_pb (e2 i) := by
        intro i hi
        rcases (a3 (e2 i)).mp ⟨i, hi, rfl⟩ with h | ⟨j, j1, j2⟩
        · rw [h]
          exact pbs _ (by rw [hph]; exact n1)
        · rw [← j2]
          exact hbe j j1
      obtain ⟨e3, I3, b1, b2, b3, b4, b5⟩ := p_X4_insert (z := (I2, z.2)) (p := q_ph W (-X, -Y)) a2 a4 (pbs _ (by rw [hph]; exact n4)) hbe2 (by
        intro i hi he
        rcases (a3 (q_ph W (-X, -Y))).mp ⟨i, hi, he⟩ with h | ⟨j, j1, j2⟩
        · have := congrArg Prod.snd (q_ph_inj hdet h)
          have this : -Y = Y := this
          omega
        · exact notin _ (n3 cY) j j1 j2)
      refine ⟨2, e3, I3, ?_, by omega, ⟨b2, fun q => ?_, fun p hp => ?_⟩, b4, fun j x y w => (b5 j x y w).trans (a5 j x y w)⟩
      · rw [if_neg (by rw [q_l0, q_l_eq ⟨by omega, by omega⟩ (by decide)]; exact cY), en.1, en.2, b1, Option.bind_some]
        rfl
      · rw [b3 q]
        constructor
        · intro h
          rcases h with h | h
          · exact ⟨(-X, -Y), Or.inr ⟨X, hX, Or.inr ⟨cY, rfl⟩⟩, h⟩
          · rcases (a3 q).mp h with h | h
            · exact ⟨(X, Y), Or.inr ⟨X, hX, Or.inl rfl⟩, h⟩
            · obtain ⟨p, p1, p2⟩ := (i2 q).mp h
              exact ⟨p, Or.inl p1, p2⟩
        · intro ⟨p, p1, p2⟩
          rcases p1 with p1 | ⟨X', x1, x2⟩
          · exact Or.inr ((a3 q).mpr (Or.inr ((i2 q).mpr ⟨p, p1, p2⟩)))
          · rcases x2 with x2 | ⟨_, x2⟩
            · rw [x2, hXu X' x1] at p2
              exact Or.inr ((a3 q).mpr (Or.inl p2))
            · rw [x2, hXu X' x1] at p2
              exact Or.inl p2
      · rcases hp with hp | ⟨X', x1, x2⟩
        · exact i3 p hp
        · rcases x2 with x2 | ⟨_, x2⟩
          · rw [x2, hXu X' x1]
            exact n1
          · rw [x2, hXu X' x1]
            exact n4
  · refine ⟨0, e, z.1, ?_, by omega, ⟨i1, fun q => ?_, fun p hp => ?_⟩, hO, fun _ _ _ _ => rfl⟩
    · rw [if_neg (fun q => c (hrem.mp q))]
      rfl
    · rw [Nat.add_zero, i2 q]
      constructor
      · intro ⟨p, p1, p2⟩
        exact ⟨p, Or.inl p1, p2⟩
      · intro ⟨p, p1, p2⟩
        rcases p1 with p1 | ⟨X', x1, _⟩
        · exact ⟨p, p1, p2⟩
        · exact absurd ⟨X', x1⟩ c
    · rcases hp with hp | ⟨X', x1, _⟩
      · exact i3 p hp
      · exact absurd ⟨X', x1⟩ c
theorem p_X9_ctDown {t rest : Int} (f : Int32) (y : Int64) {z : q_Z} (hr : 0 ≤ rest ∧ rest ≤ 100000000) : ∀ (r : Nat) (s : Int), 0 ≤ s → s ≤ r → s ≤ 10000 → rest < (s + 1) * (s + 1) → ∃ s2, q_lp B_X9_countTaken_75 (r + 1) (q_l t, q_l s, f, y, q_l rest, z) = some ((q_l t, q_l s2, f, y, q_l rest, z), 0) ∧ 0 ≤ s2 ∧ s2 ≤ s ∧ s2 * s2 ≤ rest ∧ rest < (s2 + 1) * (s2 + 1) := by
  intro r
  induction r with
  | zero =>
    intro s h1 h2 h3 h4
    have e : s = 0 := by omega
    subst e
    refine ⟨0, q_lp_end ?_, by omega, by omega, by omega, h4⟩
    simp only [B_X9_countTaken_75]
    rw [if_pos (by decide)]
  | succ r ih =>
    intro s h1 h2 h3 h4
    have s1 := q_sq_nn s
    have s2 := q_sq_mono h1 h3
    by_cases c0 : s = 0
    · subst c0
      refine ⟨0, q_lp_mono (q_lp_end (n := 0) ?_) (by omega), by omega, by omega, by omega, h4⟩
      simp only [B_X9_countTaken_75]
      rw [if_pos (by decide)]
    · by_cases c : s * s ≤ rest
      · refine ⟨s, q_lp_mono (q_lp_end (n := 0) ?_) (by omega), h1, Int.le_refl _, c, h4⟩
        simp only [B_X9_countTaken_75]
        rw [if_neg (by rw [q_l0, q_l_le ⟨by omega, by omega⟩ (by decide)]; omega), if_pos (by rw [q_l_mul, q_l_le ⟨by omega, by omega⟩ ⟨by omega, by omega⟩]; exact c)]
      · have hb : B_X9_countTaken_75 (q_l t, q_l s, f, y, q_l rest, z) = some ((q_l t, q_l (s - 1), f, y, q_l rest, z), 0) := by
          simp only [B_X9_countTaken_75]
          rw [if_neg (by rw [q_l0, q_l_le ⟨by omega, by omega⟩ (by decide)]; omega), if_neg (by rw [q_l_mul, q_l_le ⟨by omega, by omega⟩ ⟨by omega, by omega⟩]; exact c), q_l1, q_l_sub]
        obtain ⟨s3, g1, g2, g3, g4, g5⟩ := ih (s - 1) (by omega) (by omega) (by omega) (by rw [Int.sub_add_cancel]; omega)
        exact ⟨s3, by rw [q_lp_go hb]; exact g1, g2, by omega, g4, g5⟩
