/-! the class's forms and ways, by any object -/
def q_v3 (L : Nat → Nat → Int64) (o : Nat) (f : q_f3) : Nat → Nat → Int64 := q_u2 (q_u2 (q_u2 L o 0 (q_l f.1)) o 1 (q_l f.2.1)) o 2 (q_l f.2.2)
def q_v4 (L : Nat → Nat → Int64) (o : Nat) (w : q_W4) : Nat → Nat → Int64 := q_u2 (q_u2 (q_u2 (q_u2 L o 0 w.1) o 1 w.2.1) o 2 w.2.2.1) o 3 w.2.2.2
theorem q_v3_at (L : Nat → Nat → Int64) (o : Nat) (f : q_f3) : q_v3 L o f o 0 = q_l f.1 ∧ q_v3 L o f o 1 = q_l f.2.1 ∧ q_v3 L o f o 2 = q_l f.2.2 := by simp [q_v3, q_u2]
theorem q_v4_at (L : Nat → Nat → Int64) (o : Nat) (w : q_W4) : q_v4 L o w o 0 = w.1 ∧ q_v4 L o w o 1 = w.2.1 ∧ q_v4 L o w o 2 = w.2.2.1 ∧ q_v4 L o w o 3 = w.2.2.2 := by simp [q_v4, q_u2]
theorem q_v3_ne {L : Nat → Nat → Int64} {o n : Nat} {f : q_f3} (h : n ≠ o) : q_v3 L o f n = L n := by
  funext k
  simp [q_v3, q_u2, h]
theorem q_v4_ne {L : Nat → Nat → Int64} {o n : Nat} {w : q_W4} (h : n ≠ o) : q_v4 L o w n = L n := by
  funext k
  simp [q_v4, q_u2, h]
theorem q_v3_v3 (L : Nat → Nat → Int64) (o : Nat) (f g : q_f3) : q_v3 (q_v3 L o f) o g = q_v3 L o g := by
  funext n k
  by_cases hn : n = o
  · subst hn
    simp only [q_v3, q_u2, if_true]
    by_cases h2 : k = 2
    · simp [h2]
    · by_cases h1 : k = 1
      · simp [h1]
      · by_cases h0 : k = 0
        · simp [h0]
        · simp [h2, h1, h0]
  · rw [q_v3_ne hn, q_v3_ne hn, q_v3_ne hn]
theorem q_v4_v4 (L : Nat → Nat → Int64) (o : Nat) (f g : q_W4) : q_v4 (q_v4 L o f) o g = q_v4 L o g := by
  funext n k
  by_cases hn : n = o
  · subst hn
    simp only [q_v4, q_u2, if_true]
    by_cases h3 : k = 3
    · simp [h3]
    · by_cases h2 : k = 2
      · simp [h2]
      · by_cases h1 : k = 1
        · simp [h1]
        · by_cases h0 : k = 0
          · simp [h0]
          · simp [h3, h2, h1, h0]
  · rw [q_v4_ne hn, q_v4_ne hn, q_v4_ne hn]
theorem q_v34 {o p : Nat} (h : o ≠ p) (L : Nat → Nat → Int64) (f : q_f3) (w : q_W4) : q_v3 (q_v4 L p w) o f = q_v4 (q_v3 L o f) p w := by
  funext n k
  by_cases h1 : n = o
  · subst h1
    rw [q_v4_ne h]
    simp only [q_v3, q_u2, if_true]
    rw [q_v4_ne h]
  · by_cases h2 : n = p
    · subst h2
      rw [q_v3_ne (Ne.symm h)]
      simp only [q_v4, q_u2, if_true]
      rw [q_v3_ne (Ne.symm h)]
    · rw [q_v3_ne h1, q_v4_ne h2, q_v4_ne h2, q_v3_ne h1]
theorem q_v3_self {L : Nat → Nat → Int64} {o : Nat} {f : q_f3} (h0 : L o 0 = q_l f.1) (h1 : L o 1 = q_l f.2.1) (h2 : L o 2 = q_l f.2.2) : L = q_v3 L o f := by
  funext n k
  by_cases hn : n = o
  · subst hn
    simp only [q_v3, q_u2, if_true]
    by_cases c2 : k = 2
    · subst c2; simp [h2]
    · by_cases c1 : k = 1
      · subst c1; simp [h1]
      · by_cases c0 : k = 0
        · subst c0; simp [h0]
        · simp [c2, c1, c0]
  · rw [q_v3_ne hn]
theorem p_X2_advance3 {I : Nat → Nat → Int32} {L : Nat → Nat → Int64} {o : Nat} {d R : Int} {f : q_f3} (hd : I 4 0 = q_i d) (hR : I 4 1 = q_i R) (hdc : q_dc d R) (h : q_F3 d f) (hs : q_s3 f) : F_X2_advance o (I, q_v3 L o f) = some (q_l (q_tt2 d R f.2.1 f.2.2), (I, q_v3 L o (q_st d R f))) := by
  obtain ⟨a, b, c⟩ := f
  have h : q_fm d a b c := h
  obtain ⟨h1, h2, h3⟩ := hs
  simp only at h1 h2 h3
  have hR2 := q_dc_R hdc
  have hd4 : -4000 ≤ d ∧ d ≤ 4000 := by rcases hdc with q | q <;> omega
  obtain ⟨w0, w1, w2⟩ := q_v3_at L o (a, b, c)
  rw [p_X2_advance (z := (I, q_v3 L o (a, b, c))) (d := d) (R := R) (a := a) (b := b) (c := c) hd hR w1 w2 ⟨by omega, by omega⟩ ⟨by omega, by omega⟩ h2 h3 h.2.2.1 h.1]
  have e2 := q_v3_v3 L o (a, b, c) (q_st d R (a, b, c))
  show some (q_l (q_tt2 d R b c), (I, q_v3 (q_v3 L o (a, b, c)) o (q_st d R (a, b, c)))) = _
  rw [e2]
theorem p_X2_isLeast3 {I : Nat → Nat → Int32} {L : Nat → Nat → Int64} {o : Nat} {d R : Int} {f : q_f3} (hd : I 4 0 = q_i d) (hR : I 4 1 = q_i R) (hdc : q_dc d R) (h : q_F3 d f) (hs : q_s3 f) : F_X2_isLeast o (I, q_v3 L o f) = some (if q_L3 d R f then 1 else 0, (I, q_v3 L o f)) := by
  obtain ⟨a, b, c⟩ := f
  have h : q_fm d a b c := h
  obtain ⟨h1, h2, h3⟩ := hs
  simp only at h1 h2 h3
  have hR2 := q_dc_R hdc
  have hd4 : -4000 ≤ d ∧ d ≤ 4000 ∧ d ≠ 0 := by rcases hdc with q | q <;> omega
  obtain ⟨w0, w1, w2⟩ := q_v3_at L o (a, b, c)
  exact p_X2_isLeast (z := (I, q_v3 L o (a, b, c))) hd hR w0 w1 w2 ⟨by omega, by omega⟩ ⟨by omega, by omega⟩ h1 h2 h3 hd4.2.2 (fun q => (h.2.2.2 q).1)
theorem p_X8_follow {I : Nat → Nat → Int32} {L : Nat → Nat → Int64} {p : Nat} {w : q_W4} {t : Int} : F_X8_follow p (I, q_v4 L p w) (q_l t) = some ((), (I, q_v4 L p (q_wst t w))) := by
  obtain ⟨w0, w1, w2, w3⟩ := q_v4_at L p w
  unfold F_X8_follow F_X8_put
  simp only [w0, w1, w2, w3, Option.bind_some]
  have e2 := q_v4_v4 L p w (q_wst t w)
  have e3 : ∀ x y : Int64, x * q_l t - y = (-y) + x * q_l t := fun x y => by rw [Int64.sub_eq_add_neg, Int64.add_comm]
  rw [e3, e3]
  show some ((), (I, q_v4 (q_v4 L p w) p (q_wst t w))) = _
  rw [e2]
theorem p_X8_reset {I : Nat → Nat → Int32} {L : Nat → Nat → Int64} {p : Nat} : F_X8_reset p (I, L) = some ((), (I, q_v4 L p (1, 0, 0, 1))) := rfl
theorem p_X2_lead_loop {I : Nat → Nat → Int32} {L : Nat → Nat → Int64} {o p : Nat} (hop : o ≠ p) {d R : Int} (hd : I 4 0 = q_i d) (hR : I 4 1 = q_i R) (hdc : q_dc d R) : ∀ (n : Nat) (k : Int) (f : q_f3) (w : q_W4), 0 ≤ k → k + n < 100000 → q_F3 d f → q_s3 f → q_L3 d R (q_its d R n f) = true → (∀ m, m < n → q_L3 d R (q_its d R m f) = false) → q_lp (B_X2_lead_6 o p) (n + 1) (q_i k, (I, q_v4 (q_v3 L o f) p w)) = some ((q_i (k + n), (I, q_v4 (q_v3 L o (q_its d R n f)) p (q_itw d R n f w))), 0) := by
  intro n
  induction n with
  | zero =>
    intro k f w hk0 hk hF hs h1 _
    refine q_lp_end ?_
    have h1 : q_L3 d R f = true := h1
    have ht : ¬ (100000 : Int32) ≤ q_i k := by
      rw [show (100000 : Int32) = q_i 100000 from rfl, q_i_le (by decide) ⟨by omega, by omega⟩]
      omega
    simp only [B_X2_lead_6, ← q_v34 hop]
    rw [if_neg ht, p_X2_isLeast3 hd hR hdc hF hs, Option.bind_some]
    simp only [h1, if_true]
    rw [if_neg (by decide)]
    simp [q_its, q_itw]
  | succ n ih =>
    intro k f w hk0 hk hF hs h1 h2
    have h3 : q_L3 d R f = false := h2 0 (by omega)
    have ht : ¬ (100000 : Int32) ≤ q_i k := by
      rw [show (100000 : Int32) = q_i 100000 from rfl, q_i_le (by decide) ⟨by omega, by omega⟩]
      omega
    have hb : B_X2_lead_6 o p (q_i k, (I, q_v4 (q_v3 L o f) p w)) = some ((q_i (k + 1), (I, q_v4 (q_v3 L o (q_st d R f)) p (q_wst (q_tt2 d R f.2.1 f.2.2) w))), 0) := by
      simp only [B_X2_lead_6]
      rw [if_neg ht, ← q_v34 hop, p_X2_isLeast3 hd hR hdc hF hs, Option.bind_some]
      simp only [h3]
      rw [if_pos (by decide), p_X2_advance3 hd hR hdc hF hs, Option.bind_some]
      dsimp only
      rw [q_v34 hop, p_X8_follow, Option.bind_some, q_i1, q_i_add]
    rw [q_lp_go hb, ih (k + 1) (q_st d R f) _ (by omega) (by omega) (q_F3_st hdc hF) (q_s3_st hdc hF hs) h1 (fun m hm => h2 (m + 1) (by omega))]
    have e : k + 1 + (n : Int) = k + ((n + 1 : Nat) : Int) := by omega
    rw [e]
    rfl
theorem p_X2_lead {I : Nat → Nat → Int32} {L : Nat → Nat → Int64} {o p : Nat} (hop : o ≠ p) {d R : Int} {f : q_f3} {n : Nat} (hd : I 4 0 = q_i d) (hR : I 4 1 = q_i R) (hdc : q_dc d R) (hF : q_F3 d f) (hs : q_s3 f) (hn : n ≤ 100) (h1 : q_L3 d R (q_its d R n f) = true) (h2 : ∀ m, m < n → q_L3 d R (q_its d R m f) = false) : F_X2_lead o p (I, q_v3 L o f) = some (q_i n, (I, q_v4 (q_v3 L o (q_its d R n f)) p (q_itw d R n f (1, 0, 0, 1)))) := by
  unfold F_X2_lead T_X2_lead_35
  rw [p_X8_reset, Option.bind_some]
  have h3 := q_lp_mono (p_X2_lead_loop (L := L) hop hd hR hdc n 0 f (1, 0, 0, 1) (by omega) (by omega) hF hs h1 h2) (show n + 1 ≤ q_fu by unfold q_fu; omega)
  dsimp only
  rw [q_i0, h3, Option.bind_some]
  simp
