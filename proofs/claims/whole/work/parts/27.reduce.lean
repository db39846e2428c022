/-! reduces() of the reference and lead() of the class: the same number of STEPS, the same form, the same way -/
abbrev q_W4 : Type := Int64 × Int64 × Int64 × Int64
abbrev q_f3 : Type := Int × Int × Int
def q_wst (t : Int) (w : q_W4) : q_W4 := (w.2.1, (-w.1) + (w.2.1 * q_l t), w.2.2.2, (-w.2.2.1) + (w.2.2.2 * q_l t))
def q_itw (d R : Int) : Nat → q_f3 → q_W4 → q_W4
  | 0, _, w => w
  | n + 1, f, w => q_itw d R n (q_st d R f) (q_wst (q_tt2 d R f.2.1 f.2.2) w)
def q_s3 (f : q_f3) : Prop := q_s30 f.1 ∧ q_s30 f.2.1 ∧ q_s30 f.2.2
theorem q_s3_st {d R : Int} {f : q_f3} (hd : q_dc d R) (h : q_F3 d f) (hs : q_s3 f) : q_s3 (q_st d R f) := by
  obtain ⟨a, b, c⟩ := f
  have h : q_fm d a b c := h
  obtain ⟨h1, h2, h3⟩ := hs
  simp only at h1 h2 h3
  have h4 := q_nb_abs hd h
  have h5 := q_nc_le hd h
  have h6 := q_dc_R hd
  refine ⟨h3, ?_, ?_⟩
  · show q_s30 (q_nb d R b c)
    constructor <;> omega
  · show q_s30 (q_nc d R b c)
    constructor <;> omega
/-- the seven fields of the reference that STEPS write -/
def q_w7 (L : Nat → Nat → Int64) (f : q_f3) (w : q_W4) : Nat → Nat → Int64 := q_u2 (q_u2 (q_u2 (q_u2 (q_u2 (q_u2 (q_u2 L 128 15 w.1) 128 16 w.2.1) 128 17 w.2.2.1) 128 18 w.2.2.2) 128 12 (q_l f.1)) 128 13 (q_l f.2.1)) 128 14 (q_l f.2.2)
theorem q_w7_w7 (L : Nat → Nat → Int64) (f g : q_f3) (w v : q_W4) : q_w7 (q_w7 L f w) g v = q_w7 L g v := by
  funext n k
  by_cases hn : n = 128
  · subst hn
    simp only [q_w7, q_u2, if_true]
    by_cases h14 : k = 14
    · simp [h14]
    · by_cases h13 : k = 13
      · simp [h13]
      · by_cases h12 : k = 12
        · simp [h12]
        · by_cases h18 : k = 18
          · simp [h18]
          · by_cases h17 : k = 17
            · simp [h17]
            · by_cases h16 : k = 16
              · simp [h16]
              · by_cases h15 : k = 15
                · simp [h15]
                · simp [h14, h13, h12, h18, h17, h16, h15]
  · simp [q_w7, q_u2, hn]
theorem q_w7_self {L : Nat → Nat → Int64} {f : q_f3} (h1 : L 128 12 = q_l f.1) (h2 : L 128 13 = q_l f.2.1) (h3 : L 128 14 = q_l f.2.2) : L = q_w7 L f (L 128 15, L 128 16, L 128 17, L 128 18) := by
  funext n k
  by_cases hn : n = 128
  · subst hn
    simp only [q_w7, q_u2, if_true]
    by_cases h14 : k = 14
    · subst h14; simp [h3]
    · by_cases h13 : k = 13
      · subst h13; simp [h2]
      · by_cases h12 : k = 12
        · subst h12; simp [h1]
        · by_cases h18 : k = 18
          · subst h18; simp
          · by_cases h17 : k = 17
            · subst h17; simp
            · by_cases h16 : k = 16
              · subst h16; simp
              · by_cases h15 : k = 15
                · subst h15; simp
                · simp [h14, h13, h12, h18, h17, h16, h15]
  · simp [q_w7, q_u2, hn]
theorem p_X10_steps7 {I : Nat → Nat → Int32} {L : Nat → Nat → Int64} {d R : Int} {f : q_f3} {w : q_W4} (hd : I 128 0 = q_i d) (hR : I 128 1 = q_i R) (hdc : q_dc d R) (h : q_F3 d f) (hs : q_s3 f) : F_X10_steps (I, q_w7 L f w) = some ((), (I, q_w7 L (q_st d R f) (q_wst (q_tt2 d R f.2.1 f.2.2) w))) := by
  obtain ⟨a, b, c⟩ := f
  have h : q_fm d a b c := h
  obtain ⟨h1, h2, h3⟩ := hs
  simp only at h1 h2 h3
  have hR2 := q_dc_R hdc
  have hd4 : -4000 ≤ d ∧ d ≤ 4000 := by rcases hdc with q | q <;> omega
  have e := p_X10_steps (z := (I, q_w7 L (a, b, c) w)) (d := d) (R := R) (a := a) (b := b) (c := c) hd hR rfl rfl ⟨by omega, by omega⟩ ⟨by omega, by omega⟩ h2 h3 h.2.2.1 h.1
  rw [e]
  have e2 := q_w7_w7 L (a, b, c) (q_st d R (a, b, c)) w (q_wst (q_tt2 d R b c) w)
  show some ((), (I, q_w7 (q_w7 L (a, b, c) w) (q_st d R (a, b, c)) (q_wst (q_tt2 d R b c) w))) = _
  rw [e2]
theorem p_X10_isLeast7 {I : Nat → Nat → Int32} {L : Nat → Nat → Int64} {d R : Int} {f : q_f3} {w : q_W4} (hd : I 128 0 = q_i d) (hR : I 128 1 = q_i R) (hdc : q_dc d R) (hs : q_s3 f) : F_X10_isLeast (I, q_w7 L f w) = some (if q_L3 d R f then 1 else 0, (I, q_w7 L f w)) := by
  obtain ⟨a, b, c⟩ := f
  obtain ⟨h1, h2, h3⟩ := hs
  simp only at h1 h2 h3
  have hR2 := q_dc_R hdc
  have hd4 : -4000 ≤ d ∧ d ≤ 4000 := by rcases hdc with q | q <;> omega
  exact p_X10_isLeast (z := (I, q_w7 L (a, b, c) w)) hd hR rfl rfl rfl ⟨by omega, by omega⟩ ⟨by omega, by omega⟩ h1 h2 h3
theorem p_X10_red_loop {I : Nat → Nat → Int32} {L : Nat → Nat → Int64} {d R : Int} (hd : I 128 0 = q_i d) (hR : I 128 1 = q_i R) (hdc : q_dc d R) : ∀ (n : Nat) (k : Int) (f : q_f3) (w : q_W4), q_F3 d f → q_s3 f → q_L3 d R (q_its d R n f) = true → (∀ m, m < n → q_L3 d R (q_its d R m f) = false) → q_lp B_X10_reduces_2 (n + 1) (q_i k, (I, q_w7 L f w)) = some ((q_i (k + n), (I, q_w7 L (q_its d R n f) (q_itw d R n f w))), 0) := by
  intro n
  induction n with
  | zero =>
    intro k f w hF hs h1 _
    refine q_lp_end ?_
    have h1 : q_L3 d R f = true := h1
    simp only [B_X10_reduces_2, p_X10_isLeast7 hd hR hdc hs, Option.bind_some, h1, if_true]
    rw [if_neg (by decide)]
    simp [q_its, q_itw]
  | succ n ih =>
    intro k f w hF hs h1 h2
    have h3 : q_L3 d R f = false := h2 0 (by omega)
    have hb : B_X10_reduces_2 (q_i k, (I, q_w7 L f w)) = some ((q_i (k + 1), (I, q_w7 L (q_st d R f) (q_wst (q_tt2 d R f.2.1 f.2.2) w))), 0) := by
      simp only [B_X10_reduces_2, p_X10_isLeast7 hd hR hdc hs, Option.bind_some, h3]
      rw [if_pos (by decide), p_X10_steps7 hd hR hdc hF hs, Option.bind_some]
      dsimp only
      rw [q_i1, q_i_add]
    rw [q_lp_go hb, ih (k + 1) (q_st d R f) _ (q_F3_st hdc hF) (q_s3_st hdc hF hs) h1 (fun m hm => h2 (m + 1) (by omega))]
    have e : k + 1 + (n : Int) = k + ((n + 1 : Nat) : Int) := by omega
    rw [e]
    rfl
theorem p_X10_reduces {I : Nat → Nat → Int32} {L : Nat → Nat → Int64} {d R : Int} {f : q_f3} {w : q_W4} {n : Nat} (hd : I 128 0 = q_i d) (hR : I 128 1 = q_i R) (hdc : q_dc d R) (hF : q_F3 d f) (hs : q_s3 f) (hn : n ≤ 100) (h1 : q_L3 d R (q_its d R n f) = true) (h2 : ∀ m, m < n → q_L3 d R (q_its d R m f) = false) : F_X10_reduces (I, q_w7 L f w) = some (q_i n, (I, q_w7 L (q_its d R n f) (q_itw d R n f w))) := by
  unfold F_X10_reduces
  have h3 := q_lp_mono (p_X10_red_loop (L := L) hd hR hdc n 0 f w hF hs h1 h2) (show n + 1 ≤ q_fu by unfold q_fu; omega)
  rw [q_i0, h3, Option.bind_some]
  simp
