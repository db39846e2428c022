/-! root; classes, head, classOf, back -/
theorem p_J9_fmi {z : q_Z} {x y : Int} (hx : q_b x) (hx2 : q_b (-x)) (hy : q_b y) (hy0 : 0 < y) : F_J9_floorMod_7cf53 z (q_i x) (q_i y) = some (q_i (x % y), z) := by
  have hd : q_b (x.tdiv y) := by
    have h1 : (x.tdiv y).natAbs ≤ x.natAbs := by rw [Int.natAbs_tdiv]; exact Nat.div_le_self _ _
    constructor <;> omega
  have hm : q_b (x.tmod y) := by
    have h1 : (x.tmod y).natAbs ≤ x.natAbs := by rw [Int.natAbs_tmod]; exact Nat.mod_le _ _
    constructor
    · rcases Int.le_total 0 x with c | c
      · have := Int.tmod_nonneg y c; omega
      · omega
    · rcases Int.le_total 0 x with c | c
      · omega
      · have : x.tmod y ≤ 0 := q_tmod_np c
        omega
  have e1 : q_i x - q_i x / q_i y * q_i y = q_i (x.tmod y) := q_i_rem hx hy hd
  have hsg : (0 : Int32) ≤ q_i x ^^^ q_i y ↔ 0 ≤ x := by
    rw [Int32.le_iff_toInt_le]
    have h1 : (q_i x ^^^ q_i y).toInt = ((q_i x).toBitVec ^^^ (q_i y).toBitVec).toInt := rfl
    rw [h1]
    have h2 : (0 : Int) ≤ ((q_i x).toBitVec ^^^ (q_i y).toBitVec).toInt ↔ ((q_i x).toBitVec ^^^ (q_i y).toBitVec).msb = false := by
      rw [BitVec.msb_eq_toInt]
      simp
    have h3 : (q_i x).toBitVec.msb = decide (x < 0) := by
      rw [BitVec.msb_eq_toInt]
      have : (q_i x).toBitVec.toInt = x := q_i_toInt hx
      rw [this]
    have h4 : (q_i y).toBitVec.msb = false := by
      rw [BitVec.msb_eq_toInt]
      have : (q_i y).toBitVec.toInt = y := q_i_toInt hy
      rw [this]
      simp
      omega
    show (0 : Int) ≤ _ ↔ _
    rw [h2, BitVec.msb_xor, h3, h4]
    simp
  unfold F_J9_floorMod_7cf53 T_J9_floorMod_7cf53_18
  rw [e1, if_pos (by rw [q_i0, q_i_eq hy (by decide)]; omega)]
  have hmod : x % y = if 0 ≤ x ∨ x.tmod y = 0 then x.tmod y else x.tmod y + y := by
    by_cases c : 0 ≤ x
    · rw [if_pos (Or.inl c), Int.tmod_eq_emod_of_nonneg c]
    · have h5 := Int.emod_nonneg x (show y ≠ 0 by omega)
      have h6 := Int.emod_lt_of_pos x hy0
      have h7 : x.tmod y ≤ 0 := q_tmod_np (by omega)
      have h8 : -y < x.tmod y := by
        have := Int.natAbs_tmod x y
        have h10 : x.natAbs % y.natAbs < y.natAbs := Nat.mod_lt _ (by omega)
        omega
      have h9 : x.tmod y % y = x % y := by
        have h11 := Int.tmod_add_mul_tdiv x y
        have h12 := Int.add_mul_emod_self_left (x.tmod y) y (x.tdiv y)
        rw [h11] at h12
        exact h12.symm
      by_cases c2 : x.tmod y = 0
      · rw [if_pos (Or.inr c2), c2]
        rw [c2] at h9
        simpa using h9.symm
      · rw [if_neg (by omega)]
        rw [← h9]
        have : (x.tmod y + y) % y = x.tmod y % y := Int.add_emod_right _ _
        rw [← this]
        exact Int.emod_eq_of_lt (by omega) (by omega)
  by_cases c : 0 ≤ x
  · rw [if_pos (hsg.mpr c), hmod, if_pos (Or.inl c)]
  · rw [if_neg (fun q => c (hsg.mp q))]
    by_cases c2 : x.tmod y = 0
    · rw [if_pos (by rw [c2]; rfl), hmod, if_pos (Or.inr c2)]
    · rw [if_neg (by rw [q_i0, q_i_eq hm (by decide)]; exact c2), hmod, if_neg (by omega), q_i_add]
/-- a discriminant that may be told -/
def q_vd (x : Int) : Prop := -4000 ≤ x ∧ x ≤ 4000 ∧ x ≠ 0 ∧ x % 4 ≤ 1 ∧ (0 < x → ∀ r, ¬ r * r = x)
theorem q_vd_dc {x : Int} (h : q_vd x) : ∃ R, q_dc x R ∧ (x ≤ 0 → R = 0) := by
  obtain ⟨h1, h2, h3, h4, h5⟩ := h
  by_cases c : 0 < x
  · obtain ⟨r, r1, r2, r3, r4, -⟩ := p_X7_rootOf (z := (fun _ _ => 0, fun _ _ => 0)) (n := x) (by omega) (by omega)
    have := h5 c r
    refine ⟨r, Or.inr ⟨c, h2, ?_, by omega, r4⟩, fun q => by omega⟩
    rcases Int.lt_or_le 0 r with q | q
    · exact q
    · have e : r = 0 := by omega
      subst e
      omega
  · exact ⟨0, Or.inl ⟨h1, by omega, rfl⟩, fun _ => rfl⟩
theorem p_X2_isDisc {x : Int} (hx : q_b x) : (q_vd x ∧ ∀ z, F_X2_isDiscriminant z (q_i x) = some (1, z)) ∨ (¬ q_vd x ∧ ∀ z, F_X2_isDiscriminant z (q_i x) = some (0, z)) := by
  have k4 : ∀ n : Int, q_b n → ((4000 : Int32) < q_i n ↔ 4000 < n) := fun n hn => q_i_lt (x := 4000) (by decide) hn
  have km : (q_i x < (-4000 : Int32) ↔ x < -4000) := by rw [show (-4000 : Int32) = q_i (-4000) from rfl]; exact q_i_lt (y := -4000) hx (by decide)
  have k0 : (q_i x = (0 : Int32) ↔ x = 0) := q_i_eq (y := 0) hx (by decide)
  have kn : (q_i x < (0 : Int32) ↔ x < 0) := q_i_lt (y := 0) hx (by decide)
  by_cases c1 : x < -4000
  · refine Or.inr ⟨fun h => by have := h.1; omega, fun z => ?_⟩
    unfold F_X2_isDiscriminant T_X2_isDiscriminant_27
    rw [if_pos (km.mpr c1)]
  by_cases c2 : 4000 < x
  · refine Or.inr ⟨fun h => by have := h.2.1; omega, fun z => ?_⟩
    unfold F_X2_isDiscriminant T_X2_isDiscriminant_27
    rw [if_neg (fun q => c1 (km.mp q)), if_pos ((k4 x hx).mpr c2)]
  by_cases c3 : x = 0
  · refine Or.inr ⟨fun h => h.2.2.1 c3, fun z => ?_⟩
    unfold F_X2_isDiscriminant T_X2_isDiscriminant_27
    rw [if_neg (fun q => c1 (km.mp q)), if_neg (fun q => c2 ((k4 x hx).mp q)), if_pos (k0.mpr c3)]
  have fm : ∀ z, F_J9_floorMod_7cf53 z (q_i x) 4 = some (q_i (x % 4), z) := fun z => p_J9_fmi (z := z) (y := 4) hx ⟨by omega, by omega⟩ (by decide) (by decide)
  have kf : (q_i (x % 4) ≤ (1 : Int32) ↔ x % 4 ≤ 1) := q_i_le (y := 1) ⟨by omega, by omega⟩ (by decide)
  by_cases c4 : x % 4 ≤ 1
  · by_cases c5 : x < 0
    · refine Or.inl ⟨⟨by omega, by omega, c3, c4, fun q => by omega⟩, fun z => ?_⟩
      unfold F_X2_isDiscriminant T_X2_isDiscriminant_41
      rw [if_neg (fun q => c1 (km.mp q)), if_neg (fun q => c2 ((k4 x hx).mp q)), if_neg (fun q => c3 (k0.mp q)), fm, Option.bind_some]
      dsimp only
      rw [if_pos (kf.mpr c4), if_pos (kn.mpr c5)]
    · by_cases c6 : ∀ r, ¬ r * r = x
      · refine Or.inl ⟨⟨by omega, by omega, c3, c4, fun _ => c6⟩, fun z => ?_⟩
        unfold F_X2_isDiscriminant T_X2_isDiscriminant_41
        rw [if_neg (fun q => c1 (km.mp q)), if_neg (fun q => c2 ((k4 x hx).mp q)), if_neg (fun q => c3 (k0.mp q)), fm, Option.bind_some]
        dsimp only
        rw [if_pos (kf.mpr c4), if_neg (fun q => c5 (kn.mp q)), q_l_i hx]
        rcases p_X7_isSquare (z := z) (n := x) (by omega) (by omega) with ⟨r, _, r1, _⟩ | ⟨_, r2⟩
        · exact absurd r1 (c6 r)
        · rw [r2, Option.bind_some]
          dsimp only
          rw [if_pos rfl]
      · refine Or.inr ⟨fun h => c6 (h.2.2.2.2 (by omega)), fun z => ?_⟩
        unfold F_X2_isDiscriminant
        rw [if_neg (fun q => c1 (km.mp q)), if_neg (fun q => c2 ((k4 x hx).mp q)), if_neg (fun q => c3 (k0.mp q)), fm, Option.bind_some]
        dsimp only
        rw [if_pos (kf.mpr c4), if_neg (fun q => c5 (kn.mp q)), q_l_i hx]
        rcases p_X7_isSquare (z := z) (n := x) (by omega) (by omega) with ⟨r, _, _, r2⟩ | ⟨r1, _⟩
        · rw [r2, Option.bind_some]
          dsimp only
          rw [if_neg (by decide)]
        · exact absurd r1 c6
  · refine Or.inr ⟨fun h => c4 h.2.2.2.1, fun z => ?_⟩
    unfold F_X2_isDiscriminant T_X2_isDiscriminant_27
    rw [if_neg (fun q => c1 (km.mp q)), if_neg (fun q => c2 ((k4 x hx).mp q)), if_neg (fun q => c3 (k0.mp q)), fm, Option.bind_some]
    dsimp only
    rw [if_neg (fun q => c4 (kf.mp q))]
theorem p_X2_settle {x R : Int} {z : q_Z} (hdc : q_dc x R) : F_X2_settle z (q_i x) = some ((), (q_u2 (q_u2 z.1 4 0 (q_i x)) 4 1 (q_i R), z.2)) := by
  have hR := q_dc_R hdc
  have hdb : q_b x := by rcases hdc with q | q <;> exact ⟨by omega, by omega⟩
  unfold F_X2_settle T_X2_settle_20
  by_cases c : 0 < x
  · have hd : R * R < x ∧ x < (R + 1) * (R + 1) ∧ x ≤ 4000 := by rcases hdc with q | q <;> omega
    obtain ⟨r, r1, r2, r3, r4, r5⟩ := p_X7_rootOf (z := (q_u2 z.1 4 0 (q_i x), z.2)) (n := x) (by omega) (by omega)
    have er : r = R := q_sqrt_uni r1 (by omega) r3 r4 (by omega) hd.2.1
    subst er
    rw [if_neg (by rw [q_i0, q_i_le hdb (by decide)]; omega), q_l_i hdb, r5, Option.bind_some]
    dsimp only
    rw [q_i_l]
  · have hR0 : R = 0 := by rcases hdc with q | q <;> omega
    subst hR0
    rw [if_pos (by rw [q_i0, q_i_le hdb (by decide)]; omega)]
    rfl
def q_s_root (s : q_SS) (x R : Int) : q_SS := ((x, R, 0), (0, s.2.1.2), (0, s.2.2.1.2), s.2.2.2)
theorem p_X10_rootT {x : Int} (hx : q_b x) : (q_vd x ∧ ∀ z, F_X10_root z (q_i x) = T_X10_root_72 (q_u2 z.1 128 3 0, z.2) (q_i x)) ∨ (¬ q_vd x ∧ ∀ z, F_X10_root z (q_i x) = T_X10_root_65 (q_u2 z.1 128 3 0, z.2)) := by
  have hin : ∀ z : q_Z, F_X10_in z (Int32.toInt64 (q_i x)) (-4000) 4000 = some (if -4000 ≤ x ∧ x ≤ 4000 then 1 else 0, z) := by
    intro z
    rw [show (-4000 : Int64) = q_l (-4000) from rfl, show (4000 : Int64) = q_l 4000 from rfl]
    exact p_in_i (z := z) (a := -4000) (c := 4000) hx (by decide) (by decide)
  have k0 : (q_i x = (0 : Int32) ↔ x = 0) := q_i_eq (y := 0) hx (by decide)
  have kn : (q_i x ≤ (0 : Int32) ↔ x ≤ 0) := q_i_le (y := 0) hx (by decide)
  have td : q_b (x.tdiv 4) := by
    have h1 : (x.tdiv 4).natAbs ≤ x.natAbs := by rw [Int.natAbs_tdiv]; exact Nat.div_le_self _ _
    have h2 : (x.tdiv 4).natAbs = x.natAbs / 4 := by rw [Int.natAbs_tdiv]; rfl
    constructor <;> omega
  have tm : -3 ≤ x.tmod 4 ∧ x.tmod 4 ≤ 3 ∧ (x.tmod 4 - x) % 4 = 0 := by
    have h1 := Int.tmod_add_mul_tdiv x 4
    have h2 : (x.tmod 4).natAbs = x.natAbs % 4 := by rw [Int.natAbs_tmod]; rfl
    omega
  have rest : ((q_i x - q_i x / 4 * 4) + 4) - ((q_i x - q_i x / 4 * 4) + 4) / 4 * 4 = q_i (x % 4) := by
    have e1 : (x.tmod 4 + 4).tmod 4 = x % 4 := by rw [Int.tmod_eq_emod_of_nonneg (by omega)]; omega
    have e2 : (x.tmod 4 + 4).tdiv 4 = (x.tmod 4 + 4) / 4 := Int.tdiv_eq_ediv_of_nonneg (by omega)
    rw [show (4 : Int32) = q_i 4 from rfl, q_i_rem hx (by decide) td, q_i_add, q_i_rem ⟨by omega, by omega⟩ (by decide) (by rw [e2]; exact ⟨by omega, by omega⟩), e1]
  have kf : ((1 : Int32) < q_i (x % 4) ↔ 1 < x % 4) := q_i_lt (x := 1) (by decide) ⟨by omega, by omega⟩
  have body : ∀ (z : q_Z) (t : Int64), (0 < x → ((t * t = Int32.toInt64 (q_i x)) ↔ ¬ ∀ r, ¬ r * r = x)) → (q_vd x → T_X10_root_27 z (q_i x) (q_i (x % 4)) t = T_X10_root_72 z (q_i x)) ∧ (¬ q_vd x → T_X10_root_27 z (q_i x) (q_i (x % 4)) t = T_X10_root_65 z) := by
    intro z t ht
    unfold T_X10_root_27
    rw [hin, Option.bind_some]
    refine ⟨fun h => ?_, fun h => ?_⟩
    · obtain ⟨v1, v2, v3, v4, v5⟩ := h
      rw [if_pos ⟨v1, v2⟩]
      dsimp only
      rw [if_neg (by decide), if_neg (fun q => v3 (k0.mp q)), if_neg (fun q => by have := kf.mp q; omega)]
      by_cases c : x ≤ 0
      · rw [if_pos (kn.mpr c)]
      · rw [if_neg (fun q => c (kn.mp q)), if_neg (fun q => (ht (by omega)).mp q (v5 (by omega)))]
    · by_cases d1 : -4000 ≤ x ∧ x ≤ 4000
      · rw [if_pos d1]
        dsimp only
        rw [if_neg (by decide)]
        by_cases d2 : x = 0
        · rw [if_pos (k0.mpr d2)]
        · rw [if_neg (fun q => d2 (k0.mp q))]
          by_cases d3 : 1 < x % 4
          · rw [if_pos (kf.mpr d3)]
          · rw [if_neg (fun q => d3 (kf.mp q))]
            by_cases d4 : x ≤ 0
            · exact absurd ⟨d1.1, d1.2, d2, by omega, fun q => by omega⟩ h
            · rw [if_neg (fun q => d4 (kn.mp q)), if_pos ((ht (by omega)).mpr (fun q => h ⟨d1.1, d1.2, d2, by omega, fun _ => q⟩))]
      · rw [if_neg d1]
        rfl
  by_cases hv : q_vd x
  · refine Or.inl ⟨hv, fun z => ?_⟩
    unfold F_X10_root
    rw [rest]
    by_cases c : x ≤ 0
    · rw [if_pos (kn.mpr c)]
      exact (body _ 0 (fun q => by omega)).1 hv
    · rw [if_neg (fun q => c (kn.mp q)), q_l_i hx]
      obtain ⟨r, r1, r2, r3, r4, r5⟩ := p_X10_root0 (z := (q_u2 z.1 128 3 0, z.2)) (n := x) (by omega) (q_b_B hx)
      rw [r5, Option.bind_some]
      refine (body _ (q_l r) (fun _ => ?_)).1 hv
      rw [q_l_mul, q_l_i hx, q_l_eq (q_mulB r1 r2) (q_b_B hx)]
      refine ⟨fun e q => q r e, fun q => ?_⟩
      have : ∃ s : Int, s * s = x := Classical.byContradiction fun q2 => q fun s hs => q2 ⟨s, hs⟩
      obtain ⟨s, hs⟩ := this
      have hs2 : (s.natAbs : Int) * s.natAbs = x := by rw [← Int.natCast_mul, Int.natAbs_mul_self]; exact hs
      have h9 : x < ((s.natAbs : Int) + 1) * (s.natAbs + 1) := by rw [← hs2, Int.add_mul, Int.mul_add]; omega
      rw [q_sqrt_uni r1 (Int.natCast_nonneg _) r3 r4 (Int.le_of_eq hs2) h9]
      exact hs2
  · refine Or.inr ⟨hv, fun z => ?_⟩
    unfold F_X10_root
    rw [rest]
    by_cases c : x ≤ 0
    · rw [if_pos (kn.mpr c)]
      exact (body _ 0 (fun q => by omega)).2 hv
    · rw [if_neg (fun q => c (kn.mp q)), q_l_i hx]
      obtain ⟨r, r1, r2, r3, r4, r5⟩ := p_X10_root0 (z := (q_u2 z.1 128 3 0, z.2)) (n := x) (by omega) (q_b_B hx)
      rw [r5, Option.bind_some]
      refine (body _ (q_l r) (fun _ => ?_)).2 hv
      rw [q_l_mul, q_l_i hx, q_l_eq (q_mulB r1 r2) (q_b_B hx)]
      refine ⟨fun e q => q r e, fun q => ?_⟩
      have : ∃ s : Int, s * s = x := Classical.byContradiction fun q2 => q fun s hs => q2 ⟨s, hs⟩
      obtain ⟨s, hs⟩ := this
      have hs2 : (s.natAbs : Int) * s.natAbs = x := by rw [← Int.natCast_mul, Int.natAbs_mul_self]; exact hs
      have h9 : x < ((s.natAbs : Int) + 1) * (s.natAbs + 1) := by rw [← hs2, Int.add_mul, Int.mul_add]; omega
      rw [q_sqrt_uni r1 (Int.natCast_nonneg _) r3 r4 (Int.le_of_eq hs2) h9]
      exact hs2
theorem k_root {s : q_SS} (hv : q_V s) (l1 : Int32) : q_cok (fun z => F_X9_root z l1) (fun z => F_X10_root z l1) s := by
  obtain ⟨x, hx, rfl⟩ := q_i_of l1
  rcases p_X2_isDisc hx with ⟨h, hF⟩ | ⟨h, hF⟩
  · rcases p_X10_rootT hx with ⟨_, hG⟩ | ⟨h2, _⟩
    · obtain ⟨R, hdc, -⟩ := q_vd_dc h
      refine ⟨1, q_s_root s x R, ⟨hdc, h.2.2.2.1, by show 0 ≤ 40; decide, by show 0 ≤ 60; decide, hv.2.2.2.2.1, fun i hi => absurd hi (Nat.not_lt_zero i), fun i hi => absurd hi (Nat.not_lt_zero i), trivial⟩, fun z hz => ?_, fun z hz => ?_⟩
      · obtain ⟨c1, c2, c3, c4, c5, c6, c7⟩ := hz
        obtain ⟨J, hJ⟩ : ∃ J, J = q_u2 (q_u2 (q_u2 (q_u2 (q_u2 (q_u2 z.1 4 0 (q_i x)) 4 1 (q_i R)) 17 3 0) 17 4 0) 17 5 0) 1 9 0 := ⟨_, rfl⟩
        have jne : ∀ k, k ≠ 1 → k ≠ 4 → k ≠ 17 → J k = z.1 k := fun k a b c => by rw [hJ, q_u2_ne a, q_u2_ne c, q_u2_ne c, q_u2_ne c, q_u2_ne b, q_u2_ne b]
        refine ⟨(J, z.2), ?_, ⟨by rw [hJ]; exact ⟨rfl, rfl⟩, by rw [hJ]; rfl, ⟨by rw [hJ]; rfl, fun i hi => absurd hi (Nat.not_lt_zero i)⟩, ⟨0, by decide, by rw [hJ]; rfl, by rw [hJ]; rfl, fun i hi => absurd hi (Nat.not_lt_zero i)⟩, q_Cw_fr c5 rfl, q_Co_fr c6 (jne 122 (by decide) (by decide) (by decide)) (jne 123 (by decide) (by decide) (by decide)) (jne 124 (by decide) (by decide) (by decide)), q_Ctab_fr c7 (fun n a b c => jne n b c (by omega))⟩, fun n hn => ⟨jne n (by omega) (by omega) (by omega), rfl⟩⟩
        show F_X9_root z (q_i x) = _
        unfold F_X9_root F_X6_empty
        rw [hF, Option.bind_some]
        dsimp only
        rw [if_neg (by decide), p_X2_settle hdc, Option.bind_some, hJ]
        rfl
      · obtain ⟨z2, a1, a2, a3, a4, a5, a6⟩ := p_becomes hdc h.2.2.2.1 (q_u2 z.1 128 3 0, z.2)
        obtain ⟨c1, c2, c3, c4, c5, c6, c7⟩ := hz
        obtain ⟨J, hJ⟩ : ∃ J, J = q_u2 (q_u2 (q_u2 z2.1 128 6 0) 128 7 0) 128 2 0 := ⟨_, rfl⟩
        have jne : ∀ k, k ≠ 128 → J k = z2.1 k := fun k a => by rw [hJ, q_u2_ne a, q_u2_ne a, q_u2_ne a]
        have j8 : ∀ k, k ≠ 6 → k ≠ 7 → k ≠ 2 → J 128 k = z2.1 128 k := fun k a b c => by rw [hJ, q_u2_at, if_neg c, q_u2_at, if_neg b, q_u2_at, if_neg a]
        have zz : ∀ k, k ≠ 128 → (k < 134 ∨ 138 < k) → J k = z.1 k ∧ z2.2 k = z.2 k := by
          intro k a b
          have h5 := a5 k a b
          refine ⟨?_, h5.2⟩
          rw [jne k a, h5.1]
          exact q_u2_ne a
        refine ⟨(J, z2.2), ?_, ⟨⟨(j8 0 (by decide) (by decide) (by decide)).trans a2, (j8 1 (by decide) (by decide) (by decide)).trans a3⟩, by rw [hJ]; rfl, ⟨by rw [hJ]; rfl, fun i hi => absurd hi (Nat.not_lt_zero i)⟩, ⟨by rw [hJ]; rfl, fun i hi => absurd hi (Nat.not_lt_zero i)⟩, q_Mw_fr c5 (zz 131 (by decide) (by decide)).2, q_Mo_fr c6 ?_ (zz 132 (by decide) (by decide)).1 (zz 133 (by decide) (by decide)).1, q_Mtab_fr a4 (j8 22 (by decide) (by decide) (by decide)) (j8 23 (by decide) (by decide) (by decide)) (fun n b c => jne n (by omega))⟩, fun n hn => zz n (by omega) (by omega)⟩
        · show F_X10_root z (q_i x) = _
          rw [hG]
          unfold T_X10_root_72
          rw [a1, Option.bind_some, hJ]
        · show J 128 11 = z.1 128 11
          rw [j8 11 (by decide) (by decide) (by decide), a6 11 (by decide) (by decide) (by decide) (by decide)]
          rfl
    · exact absurd h h2
  · rcases p_X10_rootT hx with ⟨h2, _⟩ | ⟨_, hG⟩
    · exact absurd h2 h
    · refine q_cok_t hv 0 1 (fun z hz => ⟨(q_u2 z.1 1 9 1, z.2), ?_, q_CW_t 1 (q_CW_rfl z), rfl⟩) (fun z hz => ⟨(q_u2 (q_u2 z.1 128 3 0) 128 2 1, z.2), ?_, q_MW_t (z2 := (q_u2 z.1 128 3 0, z.2)) 1 (by decide) (q_MW_t (z2 := z) 0 (by decide) (q_MW_rfl z)), rfl⟩)
      · show F_X9_root z (q_i x) = _
        unfold F_X9_root
        rw [hF, Option.bind_some]
        rfl
      · show F_X10_root z (q_i x) = _
        rw [hG]
        rfl
