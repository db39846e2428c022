/-! pure functions of the methods, and that the methods do what they say (written by wip/whole/dec.py) -/
def T_X10_root_65 (z : q_Z) : Option (Int32 × q_Z) :=
  some (0, (q_u2 z.1 128 2 1, z.2))
set_option maxRecDepth 100000 in
set_option maxHeartbeats 4000000 in
theorem t_X10_root_65 {z zR : q_Z} {rv : Int32} (h : T_X10_root_65 z = some (rv, zR)) : q_Ex none 113 65 [(0, .ref 128)] [] (q_K0, z.1, z.2, q_R0) (some (.int rv)) (q_K0, zR.1, zR.2, q_R0) := by
  unfold T_X10_root_65 at h
  refine q_blk2 (pc2 := 71) (ls2 := [(0, .ref 128)]) (st2 := [.int 0]) (h2 := (q_K0, q_u2 z.1 128 2 1, z.2, q_R0)) [(.aload_n 0, 0, 0, 0, 0, 0), (.iconst 1, 0, 0, 0, 1, 0), (.putfield 61, 0, 9, 2, 0, 0), (.iconst 0, 0, 0, 0, 0, 0)] (by decide +kernel) rfl rfl ⟨trivial, trivial, ⟨rfl, rfl, rfl⟩, trivial, trivial⟩ ?_
  cases h
  exact q_iret .boolean rfl rfl (by decide +kernel)
def T_X10_root_72 (z : q_Z) (l1 : Int32) : Option (Int32 × q_Z) :=
  (F_X10_becomes z l1).bind fun (_, z4) =>
    some (1, (q_u2 (q_u2 (q_u2 z4.1 128 6 0) 128 7 0) 128 2 0, z4.2))
set_option maxRecDepth 100000 in
set_option maxHeartbeats 4000000 in
theorem t_X10_root_72 {z zR : q_Z} {l1 : Int32} {rv : Int32} (h : T_X10_root_72 z l1 = some (rv, zR)) : q_Ex none 113 72 [(0, .ref 128), (1, .int l1)] [] (q_K0, z.1, z.2, q_R0) (some (.int rv)) (q_K0, zR.1, zR.2, q_R0) := by
  unfold T_X10_root_72 at h
  refine q_blk2 (pc2 := 74) (ls2 := [(0, .ref 128), (1, .int l1)]) (st2 := [.int l1, .ref 128]) (h2 := (q_K0, z.1, z.2, q_R0)) [(.aload_n 0, 0, 0, 0, 0, 0), (.iload_n 1, 0, 0, 0, 0, 0)] (by decide +kernel) rfl rfl ⟨trivial, trivial, trivial⟩ ?_
  obtain ⟨⟨_, z4⟩, hc5, h⟩ := Option.bind_eq_some_iff.mp h
  dsimp only at h
  refine q_cV0 (idx := 53) (h1 := (q_K0, z4.1, z4.2, q_R0)) [.int l1, .ref 128] 111 128 9 [.int l1] [] rfl (by decide +kernel) (by decide +kernel) rfl (Nat.le_of_ble_eq_true rfl) rfl (by decide) (by decide +kernel) (by decide +kernel) (s_X10_becomes hc5) ?_
  refine q_blk2 (pc2 := 93) (ls2 := [(0, .ref 128), (1, .int l1)]) (st2 := [.int 1]) (h2 := (q_K0, q_u2 (q_u2 (q_u2 z4.1 128 6 0) 128 7 0) 128 2 0, z4.2, q_R0)) [(.aload_n 0, 0, 0, 0, 0, 0), (.iconst 0, 0, 0, 0, 0, 0), (.putfield 142, 0, 9, 6, 0, 0), (.aload_n 0, 0, 0, 0, 0, 0), (.iconst 0, 0, 0, 0, 0, 0), (.putfield 145, 0, 9, 7, 0, 0), (.aload_n 0, 0, 0, 0, 0, 0), (.iconst 0, 0, 0, 0, 0, 0), (.putfield 61, 0, 9, 2, 0, 0), (.iconst 1, 0, 0, 0, 1, 0)] (by decide +kernel) rfl rfl ⟨trivial, trivial, ⟨rfl, rfl, rfl⟩, trivial, trivial, ⟨rfl, rfl, rfl⟩, trivial, trivial, ⟨rfl, rfl, rfl⟩, trivial, trivial⟩ ?_
  cases h
  exact q_iret .boolean rfl rfl (by decide +kernel)
def T_X10_root_27 (z : q_Z) (l1 : Int32) (l2 : Int32) (t0 : Int64) : Option (Int32 × q_Z) :=
  (F_X10_in z (Int32.toInt64 l1) (-4000) 4000).bind fun (r1, z2) =>
    if r1 = (0 : Int32) then
      T_X10_root_65 z2
    else
      if l1 = (0 : Int32) then
        T_X10_root_65 z2
      else
        if (1 : Int32) < l2 then
          T_X10_root_65 z2
        else
          if l1 ≤ (0 : Int32) then
            T_X10_root_72 z2 l1
          else
            if (t0 * t0) = (Int32.toInt64 l1) then
              T_X10_root_65 z2
            else
              T_X10_root_72 z2 l1
set_option maxRecDepth 100000 in
set_option maxHeartbeats 4000000 in
theorem t_X10_root_27 {z zR : q_Z} {l1 : Int32} {l2 : Int32} {t0 : Int64} {rv : Int32} (h : T_X10_root_27 z l1 l2 t0 = some (rv, zR)) : q_Ex none 113 27 [(0, .ref 128), (1, .int l1), (2, .int l2)] [.long t0] (q_K0, z.1, z.2, q_R0) (some (.int rv)) (q_K0, zR.1, zR.2, q_R0) := by
  unfold T_X10_root_27 at h
  refine q_blk2 (pc2 := 37) (ls2 := [(3, .long t0), (0, .ref 128), (1, .int l1), (2, .int l2)]) (st2 := [.long 4000, .long (-4000), .long (Int32.toInt64 l1), .ref 128]) (h2 := (q_K0, z.1, z.2, q_R0)) [(.lstore_n 3, 0, 0, 0, 0, 0), (.aload_n 0, 0, 0, 0, 0, 0), (.iload_n 1, 0, 0, 0, 0, 0), (.i2l, 0, 0, 0, 0, 0), (.ldc2_w 134, 0, 0, 0, 0, (-4000)), (.ldc2_w 136, 0, 0, 0, 0, 4000)] (by decide +kernel) rfl rfl ⟨trivial, trivial, trivial, trivial, trivial, trivial, trivial⟩ ?_
  obtain ⟨⟨r1, z2⟩, hc6, h⟩ := Option.bind_eq_some_iff.mp h
  dsimp only at h
  refine q_cV1 (idx := 138) (v := .int r1) (h1 := (q_K0, z2.1, z2.2, q_R0)) [.long 4000, .long (-4000), .long (Int32.toInt64 l1), .ref 128] 99 128 9 [.long (Int32.toInt64 l1), .long (-4000), .long 4000] [] rfl (by decide +kernel) (by decide +kernel) rfl (Nat.le_of_ble_eq_true rfl) rfl (by decide) (by decide +kernel) (by decide +kernel) (s_X10_in hc6) ?_
  refine q_if_eq (off := 25) (tgt := 65) (by decide +kernel) (by decide) (fun c40_1 => ?_) (fun c40_1 => ?_)
  · rw [if_pos c40_1] at h
    refine q_pick [1] rfl ?_
    exact t_X10_root_65 h
  · rw [if_neg c40_1] at h
    refine q_blk2 (pc2 := 44) (ls2 := [(3, .long t0), (0, .ref 128), (1, .int l1), (2, .int l2)]) (st2 := [.int l1]) (h2 := (q_K0, z2.1, z2.2, q_R0)) [(.iload_n 1, 0, 0, 0, 0, 0)] (by decide +kernel) rfl rfl ⟨trivial, trivial⟩ ?_
    refine q_if_eq (off := 21) (tgt := 65) (by decide +kernel) (by decide) (fun c44_2 => ?_) (fun c44_2 => ?_)
    · rw [if_pos c44_2] at h
      refine q_pick [1] rfl ?_
      exact t_X10_root_65 h
    · rw [if_neg c44_2] at h
      refine q_blk2 (pc2 := 49) (ls2 := [(3, .long t0), (0, .ref 128), (1, .int l1), (2, .int l2)]) (st2 := [.int 1, .int l2]) (h2 := (q_K0, z2.1, z2.2, q_R0)) [(.iload_n 2, 0, 0, 0, 0, 0), (.iconst 1, 0, 0, 0, 1, 0)] (by decide +kernel) rfl rfl ⟨trivial, trivial, trivial⟩ ?_
      refine q_ic_gt (off := 16) (tgt := 65) (by decide +kernel) (by decide) (fun c49_3 => ?_) (fun c49_3 => ?_)
      · rw [if_pos c49_3] at h
        refine q_pick [1] rfl ?_
        exact t_X10_root_65 h
      · rw [if_neg c49_3] at h
        refine q_blk2 (pc2 := 53) (ls2 := [(3, .long t0), (0, .ref 128), (1, .int l1), (2, .int l2)]) (st2 := [.int l1]) (h2 := (q_K0, z2.1, z2.2, q_R0)) [(.iload_n 1, 0, 0, 0, 0, 0)] (by decide +kernel) rfl rfl ⟨trivial, trivial⟩ ?_
        refine q_if_le (off := 19) (tgt := 72) (by decide +kernel) (by decide) (fun c53_4 => ?_) (fun c53_4 => ?_)
        · rw [if_pos c53_4] at h
          refine q_pick [1, 2] rfl ?_
          exact t_X10_root_72 h
        · rw [if_neg c53_4] at h
          refine q_blk2 (pc2 := 61) (ls2 := [(3, .long t0), (0, .ref 128), (1, .int l1), (2, .int l2)]) (st2 := [.long (Int32.toInt64 l1), .long (t0 * t0)]) (h2 := (q_K0, z2.1, z2.2, q_R0)) [(.lload_n 3, 0, 0, 0, 0, 0), (.lload_n 3, 0, 0, 0, 0, 0), (.lmul, 0, 0, 0, 0, 0), (.iload_n 1, 0, 0, 0, 0, 0), (.i2l, 0, 0, 0, 0, 0)] (by decide +kernel) rfl rfl ⟨trivial, trivial, trivial, trivial, trivial, trivial⟩ ?_
          refine q_lc_ne (off := 10) (tgt := 72) (by decide +kernel) (by decide +kernel) (by decide) (fun c61_5 => ?_) (fun c61_5 => ?_)
          · rw [if_neg c61_5] at h
            refine q_pick [1, 2] rfl ?_
            exact t_X10_root_72 h
          · rw [if_pos c61_5] at h
            refine q_pick [1] rfl ?_
            exact t_X10_root_65 h
/-- RootFormsModel.root(I)Z -/
def F_X10_root (z : q_Z) (l1 : Int32) : Option (Int32 × q_Z) :=
  if l1 ≤ (0 : Int32) then
    T_X10_root_27 (q_u2 z.1 128 3 0, z.2) l1 (((l1 - l1 / 4 * 4) + 4) - ((l1 - l1 / 4 * 4) + 4) / 4 * 4) 0
  else
    (F_X10_root0 (q_u2 z.1 128 3 0, z.2) (Int32.toInt64 l1)).bind fun (r7, z8) =>
      T_X10_root_27 z8 l1 (((l1 - l1 / 4 * 4) + 4) - ((l1 - l1 / 4 * 4) + 4) / 4 * 4) r7
set_option maxRecDepth 100000 in
set_option maxHeartbeats 4000000 in
theorem s_X10_root {z zR : q_Z} {l1 : Int32} {rv : Int32} (h : F_X10_root z l1 = some (rv, zR)) : q_Ca 113 [.ref 128, .int l1] (q_K0, z.1, z.2, q_R0) (some (.int rv)) (q_K0, zR.1, zR.2, q_R0) := by
  refine q_Ca_of (by decide) (Nat.le_of_ble_eq_true rfl) ?_
  show q_Ex none 113 0 [(0, .ref 128), (1, .int l1)] [] (q_K0, z.1, z.2, q_R0) _ _
  unfold F_X10_root at h
  refine q_blk2 (pc2 := 14) (ls2 := [(2, .int (((l1 - l1 / 4 * 4) + 4) - ((l1 - l1 / 4 * 4) + 4) / 4 * 4)), (0, .ref 128), (1, .int l1)]) (st2 := [.int l1]) (h2 := (q_K0, q_u2 z.1 128 3 0, z.2, q_R0)) [(.aload_n 0, 0, 0, 0, 0, 0), (.iconst 0, 0, 0, 0, 0, 0), (.putfield 57, 0, 9, 3, 0, 0), (.iload_n 1, 0, 0, 0, 0, 0), (.iconst 4, 0, 0, 0, 4, 0), (.irem, 0, 0, 0, 0, 0), (.iconst 4, 0, 0, 0, 4, 0), (.iadd, 0, 0, 0, 0, 0), (.iconst 4, 0, 0, 0, 4, 0), (.irem, 0, 0, 0, 0, 0), (.istore_n 2, 0, 0, 0, 0, 0), (.iload_n 1, 0, 0, 0, 0, 0)] (by decide +kernel) rfl rfl ⟨trivial, trivial, ⟨rfl, rfl, rfl⟩, trivial, trivial, (by decide), trivial, trivial, trivial, (by decide), trivial, trivial, trivial⟩ ?_
  refine q_if_le (off := 12) (tgt := 26) (by decide +kernel) (by decide) (fun c14_1 => ?_) (fun c14_1 => ?_)
  · rw [if_pos c14_1] at h
    refine q_blk2 (pc2 := 27) (ls2 := [(2, .int (((l1 - l1 / 4 * 4) + 4) - ((l1 - l1 / 4 * 4) + 4) / 4 * 4)), (0, .ref 128), (1, .int l1)]) (st2 := [.long 0]) (h2 := (q_K0, q_u2 z.1 128 3 0, z.2, q_R0)) [(.lconst 0, 0, 0, 0, 0, 0)] (by decide +kernel) rfl rfl ⟨trivial, trivial⟩ ?_
    refine q_pick [1, 2, 0] rfl ?_
    exact t_X10_root_27 h
  · rw [if_neg c14_1] at h
    refine q_blk2 (pc2 := 20) (ls2 := [(2, .int (((l1 - l1 / 4 * 4) + 4) - ((l1 - l1 / 4 * 4) + 4) / 4 * 4)), (0, .ref 128), (1, .int l1)]) (st2 := [.long (Int32.toInt64 l1), .ref 128]) (h2 := (q_K0, q_u2 z.1 128 3 0, z.2, q_R0)) [(.aload_n 0, 0, 0, 0, 0, 0), (.iload_n 1, 0, 0, 0, 0, 0), (.i2l, 0, 0, 0, 0, 0)] (by decide +kernel) rfl rfl ⟨trivial, trivial, trivial, trivial⟩ ?_
    obtain ⟨⟨r7, z8⟩, hc9, h⟩ := Option.bind_eq_some_iff.mp h
    dsimp only at h
    refine q_cV1 (idx := 116) (v := .long r7) (h1 := (q_K0, z8.1, z8.2, q_R0)) [.long (Int32.toInt64 l1), .ref 128] 102 128 9 [.long (Int32.toInt64 l1)] [] rfl (by decide +kernel) (by decide +kernel) rfl (Nat.le_of_ble_eq_true rfl) rfl (by decide) (by decide +kernel) (by decide +kernel) (s_X10_root0 hc9) ?_
    refine q_goto (off := 4) (tgt := 27) (by decide +kernel) (by decide) ?_
    refine q_pick [1, 2, 0] rfl ?_
    exact t_X10_root_27 h
def T_X10_act_101 (z : q_Z) (l1 : Int32) (l2 : Int32) (t0 : Int64) (t1 : Int32) : Option ((Int32 × Int32 × q_Z) × Nat) :=
  if 0 ≤ Int32.toInt t1 ∧ Int32.toInt t1 < 240 then
    some ((l1, l2 + 1, (z.1, q_u2 z.2 130 (Int32.toNatClampNeg t1) t0)), 0)
  else none
set_option maxRecDepth 100000 in
set_option maxHeartbeats 4000000 in
theorem t_X10_act_101 {z : q_Z} {l1 : Int32} {l2 : Int32} {t0 : Int64} {t1 : Int32} {s2 : Int32 × Int32 × q_Z} {t : Nat} {r : Option Value} {h2 : q_H} (h : T_X10_act_101 z l1 l2 t0 t1 = some (s2, t)) (k0 : t = 0 → q_Ex none 114 63 [(0, .ref 128), (1, .int s2.1), (2, .int s2.2.1)] [] (q_K0, s2.2.2.1, s2.2.2.2, q_R0) r h2) (k1 : t = 1 → q_Ex none 114 108 [(0, .ref 128), (1, .int s2.1), (2, .int s2.2.1)] [] (q_K0, s2.2.2.1, s2.2.2.2, q_R0) r h2) : q_Ex none 114 101 [(0, .ref 128), (1, .int l1), (2, .int l2)] [.long t0, .int t1, .ref 130] (q_K0, z.1, z.2, q_R0) r h2 := by
  unfold T_X10_act_101 at h
  have b3 : 0 ≤ Int32.toInt t1 ∧ Int32.toInt t1 < 240 := by
    by_cases q : 0 ≤ Int32.toInt t1 ∧ Int32.toInt t1 < 240
    · exact q
    · rw [if_neg q] at h; cases h
  rw [if_pos b3] at h
  refine q_blk2 (pc2 := 105) (ls2 := [(2, .int (l2 + 1)), (0, .ref 128), (1, .int l1)]) (st2 := []) (h2 := (q_K0, z.1, q_u2 z.2 130 (Int32.toNatClampNeg t1) t0, q_R0)) [(.lastore, 0, 0, 0, 0, 0), (.iinc 2 1, 0, 0, 0, 1, 0)] (by decide +kernel) rfl rfl ⟨⟨_, rfl, vp_in_iff.mpr b3⟩, trivial, trivial⟩ ?_
  refine q_goto (off := -42) (tgt := 63) (by decide +kernel) (by decide) ?_
  cases h
  refine q_pick [1, 2, 0] rfl ?_
  exact k0 rfl
def B_X10_act_63 : Int32 × Int32 × q_Z → Option ((Int32 × Int32 × q_Z) × Nat) := fun (l1, l2, z) =>
  if (3 : Int32) ≤ l2 then
    some ((l1, l2, z), 1)
  else
    if l1 = (-1 : Int32) then
      T_X10_act_101 z l1 l2 0 (((4 * (z.1 128 7)) + 1) + l2)
    else
      if 0 ≤ Int32.toInt ((3 * l1) + l2) ∧ Int32.toInt ((3 * l1) + l2) < 120 then
        T_X10_act_101 z l1 l2 (z.2 129 (Int32.toNatClampNeg ((3 * l1) + l2))) (((4 * (z.1 128 7)) + 1) + l2)
      else none
set_option maxRecDepth 100000 in
set_option maxHeartbeats 4000000 in
theorem b_X10_act_63 {s s2 : Int32 × Int32 × q_Z} {t : Nat} {r : Option Value} {h2 : q_H} (h : B_X10_act_63 s = some (s2, t)) (k0 : t = 0 → q_Ex none 114 63 [(0, .ref 128), (1, .int s2.1), (2, .int s2.2.1)] [] (q_K0, s2.2.2.1, s2.2.2.2, q_R0) r h2) (k1 : t = 1 → q_Ex none 114 108 [(0, .ref 128), (1, .int s2.1), (2, .int s2.2.1)] [] (q_K0, s2.2.2.1, s2.2.2.2, q_R0) r h2) : q_Ex none 114 63 [(0, .ref 128), (1, .int s.1), (2, .int s.2.1)] [] (q_K0, s.2.2.1, s.2.2.2, q_R0) r h2 := by
  unfold B_X10_act_63 at h
  obtain ⟨l1, l2, z⟩ := s
  dsimp only at h
  show q_Ex none 114 63 [(0, .ref 128), (1, .int l1), (2, .int l2)] [] (q_K0, z.1, z.2, q_R0) r h2
  refine q_blk2 (pc2 := 65) (ls2 := [(0, .ref 128), (1, .int l1), (2, .int l2)]) (st2 := [.int 3, .int l2]) (h2 := (q_K0, z.1, z.2, q_R0)) [(.iload_n 2, 0, 0, 0, 0, 0), (.iconst 3, 0, 0, 0, 3, 0)] (by decide +kernel) rfl rfl ⟨trivial, trivial, trivial⟩ ?_
  refine q_ic_ge (off := 43) (tgt := 108) (by decide +kernel) (by decide) (fun c65_1 => ?_) (fun c65_1 => ?_)
  · rw [if_pos c65_1] at h
    cases h
    refine q_pick [0, 1, 2] rfl ?_
    exact k1 rfl
  · rw [if_neg c65_1] at h
    refine q_blk2 (pc2 := 84) (ls2 := [(0, .ref 128), (1, .int l1), (2, .int l2)]) (st2 := [.int (-1), .int l1, .int (((4 * (z.1 128 7)) + 1) + l2), .ref 130]) (h2 := (q_K0, z.1, z.2, q_R0)) [(.aload_n 0, 0, 0, 0, 0, 0), (.getfield 13, 0, 9, 5, 0, 0), (.iconst 4, 0, 0, 0, 4, 0), (.aload_n 0, 0, 0, 0, 0, 0), (.getfield 145, 0, 9, 7, 0, 0), (.imul, 0, 0, 0, 0, 0), (.iconst 1, 0, 0, 0, 1, 0), (.iadd, 0, 0, 0, 0, 0), (.iload_n 2, 0, 0, 0, 0, 0), (.iadd, 0, 0, 0, 0, 0), (.iload_n 1, 0, 0, 0, 0, 0), (.iconst (-1), 0, 0, 0, (-1), 0)] (by decide +kernel) rfl rfl ⟨trivial, rfl, trivial, trivial, rfl, trivial, trivial, trivial, trivial, trivial, trivial, trivial, trivial⟩ ?_
    refine q_ic_ne (off := 7) (tgt := 91) (by decide +kernel) (by decide) (fun c84_2 => ?_) (fun c84_2 => ?_)
    · rw [if_neg c84_2] at h
      have b2 : 0 ≤ Int32.toInt ((3 * l1) + l2) ∧ Int32.toInt ((3 * l1) + l2) < 120 := by
        by_cases q : 0 ≤ Int32.toInt ((3 * l1) + l2) ∧ Int32.toInt ((3 * l1) + l2) < 120
        · exact q
        · rw [if_neg q] at h; cases h
      rw [if_pos b2] at h
      refine q_blk2 (pc2 := 101) (ls2 := [(0, .ref 128), (1, .int l1), (2, .int l2)]) (st2 := [.long (z.2 129 (Int32.toNatClampNeg ((3 * l1) + l2))), .int (((4 * (z.1 128 7)) + 1) + l2), .ref 130]) (h2 := (q_K0, z.1, z.2, q_R0)) [(.aload_n 0, 0, 0, 0, 0, 0), (.getfield 7, 0, 9, 4, 0, 0), (.iconst 3, 0, 0, 0, 3, 0), (.iload_n 1, 0, 0, 0, 0, 0), (.imul, 0, 0, 0, 0, 0), (.iload_n 2, 0, 0, 0, 0, 0), (.iadd, 0, 0, 0, 0, 0), (.laload, 0, 0, 0, 0, 0)] (by decide +kernel) rfl rfl ⟨trivial, rfl, trivial, trivial, trivial, trivial, trivial, ⟨_, rfl, vp_in_iff.mpr b2⟩, trivial⟩ ?_
      refine q_pick [0, 1, 2] rfl ?_
      exact t_X10_act_101 h k0 k1
    · rw [if_pos c84_2] at h
      refine q_blk2 (pc2 := 88) (ls2 := [(0, .ref 128), (1, .int l1), (2, .int l2)]) (st2 := [.long 0, .int (((4 * (z.1 128 7)) + 1) + l2), .ref 130]) (h2 := (q_K0, z.1, z.2, q_R0)) [(.lconst 0, 0, 0, 0, 0, 0)] (by decide +kernel) rfl rfl ⟨trivial, trivial⟩ ?_
      refine q_goto (off := 13) (tgt := 101) (by decide +kernel) (by decide) ?_
      refine q_pick [0, 1, 2] rfl ?_
      exact t_X10_act_101 h k0 k1
def T_X10_act_48 (z : q_Z) (l1 : Int32) : Option (Unit × q_Z) :=
  if 0 ≤ Int32.toInt (4 * (z.1 128 7)) ∧ Int32.toInt (4 * (z.1 128 7)) < 240 then
    (q_lp (B_X10_act_63) q_fu (l1, 0, (z.1, q_u2 z.2 130 (Int32.toNatClampNeg (4 * (z.1 128 7))) (Int32.toInt64 l1)))).bind fun ((w5, w6, z4), tg) =>
      if tg = 0 then
        some ((), (q_u2 z4.1 128 7 ((z4.1 128 7) + 1), z4.2))
      else none
  else none
set_option maxRecDepth 100000 in
set_option maxHeartbeats 4000000 in
theorem t_X10_act_48 {z zR : q_Z} {l1 : Int32} {rv : Unit} (h : T_X10_act_48 z l1 = some (rv, zR)) : q_Ex none 114 48 [(0, .ref 128), (1, .int l1)] [] (q_K0, z.1, z.2, q_R0) none (q_K0, zR.1, zR.2, q_R0) := by
  unfold T_X10_act_48 at h
  have b1 : 0 ≤ Int32.toInt (4 * (z.1 128 7)) ∧ Int32.toInt (4 * (z.1 128 7)) < 240 := by
    by_cases q : 0 ≤ Int32.toInt (4 * (z.1 128 7)) ∧ Int32.toInt (4 * (z.1 128 7)) < 240
    · exact q
    · rw [if_neg q] at h; cases h
  rw [if_pos b1] at h
  refine q_blk2 (pc2 := 63) (ls2 := [(2, .int 0), (0, .ref 128), (1, .int l1)]) (st2 := []) (h2 := (q_K0, z.1, q_u2 z.2 130 (Int32.toNatClampNeg (4 * (z.1 128 7))) (Int32.toInt64 l1), q_R0)) [(.aload_n 0, 0, 0, 0, 0, 0), (.getfield 13, 0, 9, 5, 0, 0), (.iconst 4, 0, 0, 0, 4, 0), (.aload_n 0, 0, 0, 0, 0, 0), (.getfield 145, 0, 9, 7, 0, 0), (.imul, 0, 0, 0, 0, 0), (.iload_n 1, 0, 0, 0, 0, 0), (.i2l, 0, 0, 0, 0, 0), (.lastore, 0, 0, 0, 0, 0), (.iconst 0, 0, 0, 0, 0, 0), (.istore_n 2, 0, 0, 0, 0, 0)] (by decide +kernel) rfl rfl ⟨trivial, rfl, trivial, trivial, rfl, trivial, trivial, trivial, ⟨_, rfl, vp_in_iff.mpr b1⟩, trivial, trivial, trivial⟩ ?_
  obtain ⟨⟨⟨w5, w6, z4⟩, tg8⟩, hl7, h⟩ := Option.bind_eq_some_iff.mp h
  dsimp only at h
  refine q_pick [1, 2, 0] rfl ?_
  refine q_lp_ok (P := fun s => q_Ex _ 114 63 [(0, .ref 128), (1, .int s.1), (2, .int s.2.1)] [] (q_K0, s.2.2.1, s.2.2.2, q_R0) _ _) (X := fun u s => (u = 0 → q_Ex _ 114 108 [(0, .ref 128), (1, .int s.1), (2, .int s.2.1)] [] (q_K0, s.2.2.1, s.2.2.2, q_R0) _ _)) (fun s s2 t hh k0 kx => b_X10_act_63 hh k0 (fun e => (kx 0 e) rfl)) hl7 ?_
  · intro e_tg8
    subst e_tg8
    rw [if_pos rfl] at h
    show q_Ex _ 114 108 [(0, .ref 128), (1, .int w5), (2, .int w6)] [] (q_K0, z4.1, z4.2, q_R0) _ _
    refine q_blk2 (pc2 := 118) (ls2 := [(0, .ref 128), (1, .int w5), (2, .int w6)]) (st2 := []) (h2 := (q_K0, q_u2 z4.1 128 7 ((z4.1 128 7) + 1), z4.2, q_R0)) [(.aload_n 0, 0, 0, 0, 0, 0), (.dup, 0, 0, 0, 0, 0), (.getfield 145, 0, 9, 7, 0, 0), (.iconst 1, 0, 0, 0, 1, 0), (.iadd, 0, 0, 0, 0, 0), (.putfield 145, 0, 9, 7, 0, 0)] (by decide +kernel) rfl rfl ⟨trivial, trivial, rfl, trivial, trivial, ⟨rfl, rfl, rfl⟩, trivial⟩ ?_
    cases h
    exact q_vret rfl (by decide +kernel)
def B_X10_act_11 : Int32 × Int32 × q_Z → Option ((Int32 × Int32 × q_Z) × Nat) := fun (l1, l2, z) =>
  if (240 : Int32) ≤ l2 then
    some ((l1, l2, z), 1)
  else
    if 0 ≤ Int32.toInt l2 ∧ Int32.toInt l2 < 240 then
      if 0 ≤ Int32.toInt (l2 - 4) ∧ Int32.toInt (l2 - 4) < 240 then
        some ((l1, l2 + 1, (z.1, q_u2 z.2 130 (Int32.toNatClampNeg (l2 - 4)) (z.2 130 (Int32.toNatClampNeg l2)))), 0)
      else none
    else none
set_option maxRecDepth 100000 in
set_option maxHeartbeats 4000000 in
theorem b_X10_act_11 {s s2 : Int32 × Int32 × q_Z} {t : Nat} {r : Option Value} {h2 : q_H} (h : B_X10_act_11 s = some (s2, t)) (k0 : t = 0 → q_Ex none 114 11 [(0, .ref 128), (1, .int s2.1), (2, .int s2.2.1)] [] (q_K0, s2.2.2.1, s2.2.2.2, q_R0) r h2) (k1 : t = 1 → q_Ex none 114 38 [(0, .ref 128), (1, .int s2.1), (2, .int s2.2.1)] [] (q_K0, s2.2.2.1, s2.2.2.2, q_R0) r h2) : q_Ex none 114 11 [(0, .ref 128), (1, .int s.1), (2, .int s.2.1)] [] (q_K0, s.2.2.1, s.2.2.2, q_R0) r h2 := by
  unfold B_X10_act_11 at h
  obtain ⟨l1, l2, z⟩ := s
  dsimp only at h
  show q_Ex none 114 11 [(0, .ref 128), (1, .int l1), (2, .int l2)] [] (q_K0, z.1, z.2, q_R0) r h2
  refine q_blk2 (pc2 := 15) (ls2 := [(0, .ref 128), (1, .int l1), (2, .int l2)]) (st2 := [.int 240, .int l2]) (h2 := (q_K0, z.1, z.2, q_R0)) [(.iload_n 2, 0, 0, 0, 0, 0), (.sipush 240, 0, 0, 0, 240, 0)] (by decide +kernel) rfl rfl ⟨trivial, trivial, trivial⟩ ?_
  refine q_ic_ge (off := 23) (tgt := 38) (by decide +kernel) (by decide) (fun c15_1 => ?_) (fun c15_1 => ?_)
  · rw [if_pos c15_1] at h
    cases h
    refine q_pick [0, 1, 2] rfl ?_
    exact k1 rfl
  · rw [if_neg c15_1] at h
    have b9 : 0 ≤ Int32.toInt l2 ∧ Int32.toInt l2 < 240 := by
      by_cases q : 0 ≤ Int32.toInt l2 ∧ Int32.toInt l2 < 240
      · exact q
      · rw [if_neg q] at h; cases h
    rw [if_pos b9] at h
    have b10 : 0 ≤ Int32.toInt (l2 - 4) ∧ Int32.toInt (l2 - 4) < 240 := by
      by_cases q : 0 ≤ Int32.toInt (l2 - 4) ∧ Int32.toInt (l2 - 4) < 240
      · exact q
      · rw [if_neg q] at h; cases h
    rw [if_pos b10] at h
    refine q_blk2 (pc2 := 35) (ls2 := [(2, .int (l2 + 1)), (0, .ref 128), (1, .int l1)]) (st2 := []) (h2 := (q_K0, z.1, q_u2 z.2 130 (Int32.toNatClampNeg (l2 - 4)) (z.2 130 (Int32.toNatClampNeg l2)), q_R0)) [(.aload_n 0, 0, 0, 0, 0, 0), (.getfield 13, 0, 9, 5, 0, 0), (.iload_n 2, 0, 0, 0, 0, 0), (.iconst 4, 0, 0, 0, 4, 0), (.isub, 0, 0, 0, 0, 0), (.aload_n 0, 0, 0, 0, 0, 0), (.getfield 13, 0, 9, 5, 0, 0), (.iload_n 2, 0, 0, 0, 0, 0), (.laload, 0, 0, 0, 0, 0), (.lastore, 0, 0, 0, 0, 0), (.iinc 2 1, 0, 0, 0, 1, 0)] (by decide +kernel) rfl rfl ⟨trivial, rfl, trivial, trivial, trivial, trivial, rfl, trivial, ⟨_, rfl, vp_in_iff.mpr b9⟩, ⟨_, rfl, vp_in_iff.mpr b10⟩, trivial, trivial⟩ ?_
    refine q_goto (off := -24) (tgt := 11) (by decide +kernel) (by decide) ?_
    cases h
    refine q_pick [1, 2, 0] rfl ?_
    exact k0 rfl
/-- RootFormsModel.act(I)V -/
def F_X10_act (z : q_Z) (l1 : Int32) : Option (Unit × q_Z) :=
  if (z.1 128 7) = (60 : Int32) then
    (q_lp (B_X10_act_11) q_fu (l1, 4, z)).bind fun ((w12, w13, z11), tg) =>
      if tg = 0 then
        T_X10_act_48 (q_u2 z11.1 128 7 ((z11.1 128 7) - 1), z11.2) w12
      else none
  else
    T_X10_act_48 z l1
set_option maxRecDepth 100000 in
set_option maxHeartbeats 4000000 in
theorem s_X10_act {z zR : q_Z} {l1 : Int32} {rv : Unit} (h : F_X10_act z l1 = some (rv, zR)) : q_Ca 114 [.ref 128, .int l1] (q_K0, z.1, z.2, q_R0) none (q_K0, zR.1, zR.2, q_R0) := by
  refine q_Ca_of (by decide) (Nat.le_of_ble_eq_true rfl) ?_
  show q_Ex none 114 0 [(0, .ref 128), (1, .int l1)] [] (q_K0, z.1, z.2, q_R0) _ _
  unfold F_X10_act at h
  refine q_blk2 (pc2 := 6) (ls2 := [(0, .ref 128), (1, .int l1)]) (st2 := [.int 60, .int (z.1 128 7)]) (h2 := (q_K0, z.1, z.2, q_R0)) [(.aload_n 0, 0, 0, 0, 0, 0), (.getfield 145, 0, 9, 7, 0, 0), (.bipush 60, 0, 0, 0, 60, 0)] (by decide +kernel) rfl rfl ⟨trivial, rfl, trivial, trivial⟩ ?_
  refine q_ic_ne (off := 42) (tgt := 48) (by decide +kernel) (by decide) (fun c6_1 => ?_) (fun c6_1 => ?_)
  · rw [if_neg c6_1] at h
    refine q_pick [0, 1] rfl ?_
    exact t_X10_act_48 h
  · rw [if_pos c6_1] at h
    refine q_blk2 (pc2 := 11) (ls2 := [(2, .int 4), (0, .ref 128), (1, .int l1)]) (st2 := []) (h2 := (q_K0, z.1, z.2, q_R0)) [(.iconst 4, 0, 0, 0, 4, 0), (.istore_n 2, 0, 0, 0, 0, 0)] (by decide +kernel) rfl rfl ⟨trivial, trivial, trivial⟩ ?_
    obtain ⟨⟨⟨w12, w13, z11⟩, tg15⟩, hl14, h⟩ := Option.bind_eq_some_iff.mp h
    dsimp only at h
    refine q_pick [1, 2, 0] rfl ?_
    refine q_lp_ok (P := fun s => q_Ex _ 114 11 [(0, .ref 128), (1, .int s.1), (2, .int s.2.1)] [] (q_K0, s.2.2.1, s.2.2.2, q_R0) _ _) (X := fun u s => (u = 0 → q_Ex _ 114 38 [(0, .ref 128), (1, .int s.1), (2, .int s.2.1)] [] (q_K0, s.2.2.1, s.2.2.2, q_R0) _ _)) (fun s s2 t hh k0 kx => b_X10_act_11 hh k0 (fun e => (kx 0 e) rfl)) hl14 ?_
    · intro e_tg15
      subst e_tg15
      rw [if_pos rfl] at h
      show q_Ex _ 114 38 [(0, .ref 128), (1, .int w12), (2, .int w13)] [] (q_K0, z11.1, z11.2, q_R0) _ _
      refine q_blk2 (pc2 := 48) (ls2 := [(0, .ref 128), (1, .int w12), (2, .int w13)]) (st2 := []) (h2 := (q_K0, q_u2 z11.1 128 7 ((z11.1 128 7) - 1), z11.2, q_R0)) [(.aload_n 0, 0, 0, 0, 0, 0), (.dup, 0, 0, 0, 0, 0), (.getfield 145, 0, 9, 7, 0, 0), (.iconst 1, 0, 0, 0, 1, 0), (.isub, 0, 0, 0, 0, 0), (.putfield 145, 0, 9, 7, 0, 0)] (by decide +kernel) rfl rfl ⟨trivial, trivial, rfl, trivial, trivial, ⟨rfl, rfl, rfl⟩, trivial⟩ ?_
      refine q_pick [0, 1] rfl ?_
      exact t_X10_act_48 h
def B_X10_undo_56 : Int32 × Int32 × q_Z → Option ((Int32 × Int32 × q_Z) × Nat) := fun (l1, l2, z) =>
  if (3 : Int32) ≤ l2 then
    some ((l1, l2, z), 1)
  else
    if 0 ≤ Int32.toInt (((4 * (z.1 128 7)) + 1) + l2) ∧ Int32.toInt (((4 * (z.1 128 7)) + 1) + l2) < 240 then
      if 0 ≤ Int32.toInt ((3 * l1) + l2) ∧ Int32.toInt ((3 * l1) + l2) < 120 then
        some ((l1, l2 + 1, (z.1, q_u2 z.2 129 (Int32.toNatClampNeg ((3 * l1) + l2)) (z.2 130 (Int32.toNatClampNeg (((4 * (z.1 128 7)) + 1) + l2))))), 0)
      else none
    else none
set_option maxRecDepth 100000 in
set_option maxHeartbeats 4000000 in
theorem b_X10_undo_56 {s s2 : Int32 × Int32 × q_Z} {t : Nat} {r : Option Value} {h2 : q_H} (h : B_X10_undo_56 s = some (s2, t)) (k0 : t = 0 → q_Ex none 115 56 [(0, .ref 128), (1, .int s2.1), (2, .int s2.2.1)] [] (q_K0, s2.2.2.1, s2.2.2.2, q_R0) r h2) (k1 : t = 1 → q_Ex none 115 92 [(0, .ref 128), (1, .int s2.1), (2, .int s2.2.1)] [] (q_K0, s2.2.2.1, s2.2.2.2, q_R0) r h2) : q_Ex none 115 56 [(0, .ref 128), (1, .int s.1), (2, .int s.2.1)] [] (q_K0, s.2.2.1, s.2.2.2, q_R0) r h2 := by
  unfold B_X10_undo_56 at h
  obtain ⟨l1, l2, z⟩ := s
  dsimp only at h
  show q_Ex none 115 56 [(0, .ref 128), (1, .int l1), (2, .int l2)] [] (q_K0, z.1, z.2, q_R0) r h2
  refine q_blk2 (pc2 := 58) (ls2 := [(0, .ref 128), (1, .int l1), (2, .int l2)]) (st2 := [.int 3, .int l2]) (h2 := (q_K0, z.1, z.2, q_R0)) [(.iload_n 2, 0, 0, 0, 0, 0), (.iconst 3, 0, 0, 0, 3, 0)] (by decide +kernel) rfl rfl ⟨trivial, trivial, trivial⟩ ?_
  refine q_ic_ge (off := 34) (tgt := 92) (by decide +kernel) (by decide) (fun c58_1 => ?_) (fun c58_1 => ?_)
  · rw [if_pos c58_1] at h
    cases h
    refine q_pick [0, 1, 2] rfl ?_
    exact k1 rfl
  · rw [if_neg c58_1] at h
    have b2 : 0 ≤ Int32.toInt (((4 * (z.1 128 7)) + 1) + l2) ∧ Int32.toInt (((4 * (z.1 128 7)) + 1) + l2) < 240 := by
      by_cases q : 0 ≤ Int32.toInt (((4 * (z.1 128 7)) + 1) + l2) ∧ Int32.toInt (((4 * (z.1 128 7)) + 1) + l2) < 240
      · exact q
      · rw [if_neg q] at h; cases h
    rw [if_pos b2] at h
    have b3 : 0 ≤ Int32.toInt ((3 * l1) + l2) ∧ Int32.toInt ((3 * l1) + l2) < 120 := by
      by_cases q : 0 ≤ Int32.toInt ((3 * l1) + l2) ∧ Int32.toInt ((3 * l1) + l2) < 120
      · exact q
      · rw [if_neg q] at h; cases h
    rw [if_pos b3] at h
    refine q_blk2 (pc2 := 89) (ls2 := [(2, .int (l2 + 1)), (0, .ref 128), (1, .int l1)]) (st2 := []) (h2 := (q_K0, z.1, q_u2 z.2 129 (Int32.toNatClampNeg ((3 * l1) + l2)) (z.2 130 (Int32.toNatClampNeg (((4 * (z.1 128 7)) + 1) + l2))), q_R0)) [(.aload_n 0, 0, 0, 0, 0, 0), (.getfield 7, 0, 9, 4, 0, 0), (.iconst 3, 0, 0, 0, 3, 0), (.iload_n 1, 0, 0, 0, 0, 0), (.imul, 0, 0, 0, 0, 0), (.iload_n 2, 0, 0, 0, 0, 0), (.iadd, 0, 0, 0, 0, 0), (.aload_n 0, 0, 0, 0, 0, 0), (.getfield 13, 0, 9, 5, 0, 0), (.iconst 4, 0, 0, 0, 4, 0), (.aload_n 0, 0, 0, 0, 0, 0), (.getfield 145, 0, 9, 7, 0, 0), (.imul, 0, 0, 0, 0, 0), (.iconst 1, 0, 0, 0, 1, 0), (.iadd, 0, 0, 0, 0, 0), (.iload_n 2, 0, 0, 0, 0, 0), (.iadd, 0, 0, 0, 0, 0), (.laload, 0, 0, 0, 0, 0), (.lastore, 0, 0, 0, 0, 0), (.iinc 2 1, 0, 0, 0, 1, 0)] (by decide +kernel) rfl rfl ⟨trivial, rfl, trivial, trivial, trivial, trivial, trivial, trivial, rfl, trivial, trivial, rfl, trivial, trivial, trivial, trivial, trivial, ⟨_, rfl, vp_in_iff.mpr b2⟩, ⟨_, rfl, vp_in_iff.mpr b3⟩, trivial, trivial⟩ ?_
    refine q_goto (off := -33) (tgt := 56) (by decide +kernel) (by decide) ?_
    cases h
    refine q_pick [1, 2, 0] rfl ?_
    exact k0 rfl
/-- RootFormsModel.undo()I -/
def F_X10_undo (z : q_Z) : Option (Int32 × q_Z) :=
  if (z.1 128 7) = (0 : Int32) then
    some (0, (q_u2 z.1 128 3 0, z.2))
  else
    if 0 ≤ Int32.toInt (4 * ((z.1 128 7) - 1)) ∧ Int32.toInt (4 * ((z.1 128 7) - 1)) < 240 then
      if (Int64.toInt32 (z.2 130 (Int32.toNatClampNeg (4 * ((z.1 128 7) - 1))))) = (-1 : Int32) then
        some (1, (q_u2 (q_u2 (q_u2 z.1 128 3 0) 128 7 ((z.1 128 7) - 1)) 128 6 ((z.1 128 6) - 1), z.2))
      else
        (q_lp (B_X10_undo_56) q_fu (Int64.toInt32 (z.2 130 (Int32.toNatClampNeg (4 * ((z.1 128 7) - 1)))), 0, (q_u2 (q_u2 z.1 128 3 0) 128 7 ((z.1 128 7) - 1), z.2))).bind fun ((w5, w6, z4), tg) =>
          if tg = 0 then
            some (1, z4)
          else none
    else none
set_option maxRecDepth 100000 in
set_option maxHeartbeats 4000000 in
theorem s_X10_undo {z zR : q_Z} {rv : Int32} (h : F_X10_undo z = some (rv, zR)) : q_Ca 115 [.ref 128] (q_K0, z.1, z.2, q_R0) (some (.int rv)) (q_K0, zR.1, zR.2, q_R0) := by
  refine q_Ca_of (by decide) (Nat.le_of_ble_eq_true rfl) ?_
  show q_Ex none 115 0 [(0, .ref 128)] [] (q_K0, z.1, z.2, q_R0) _ _
  unfold F_X10_undo at h
  refine q_blk2 (pc2 := 9) (ls2 := [(0, .ref 128)]) (st2 := [.int (z.1 128 7)]) (h2 := (q_K0, q_u2 z.1 128 3 0, z.2, q_R0)) [(.aload_n 0, 0, 0, 0, 0, 0), (.iconst 0, 0, 0, 0, 0, 0), (.putfield 57, 0, 9, 3, 0, 0), (.aload_n 0, 0, 0, 0, 0, 0), (.getfield 145, 0, 9, 7, 0, 0)] (by decide +kernel) rfl rfl ⟨trivial, trivial, ⟨rfl, rfl, rfl⟩, trivial, rfl, trivial⟩ ?_
  refine q_if_ne (off := 5) (tgt := 14) (by decide +kernel) (by decide) (fun c9_1 => ?_) (fun c9_1 => ?_)
  · rw [if_neg c9_1] at h
    have b1 : 0 ≤ Int32.toInt (4 * ((z.1 128 7) - 1)) ∧ Int32.toInt (4 * ((z.1 128 7) - 1)) < 240 := by
      by_cases q : 0 ≤ Int32.toInt (4 * ((z.1 128 7) - 1)) ∧ Int32.toInt (4 * ((z.1 128 7) - 1)) < 240
      · exact q
      · rw [if_neg q] at h; cases h
    rw [if_pos b1] at h
    refine q_blk2 (pc2 := 39) (ls2 := [(1, .int (Int64.toInt32 (z.2 130 (Int32.toNatClampNeg (4 * ((z.1 128 7) - 1)))))), (0, .ref 128)]) (st2 := [.int (-1), .int (Int64.toInt32 (z.2 130 (Int32.toNatClampNeg (4 * ((z.1 128 7) - 1)))))]) (h2 := (q_K0, q_u2 (q_u2 z.1 128 3 0) 128 7 ((z.1 128 7) - 1), z.2, q_R0)) [(.aload_n 0, 0, 0, 0, 0, 0), (.dup, 0, 0, 0, 0, 0), (.getfield 145, 0, 9, 7, 0, 0), (.iconst 1, 0, 0, 0, 1, 0), (.isub, 0, 0, 0, 0, 0), (.putfield 145, 0, 9, 7, 0, 0), (.aload_n 0, 0, 0, 0, 0, 0), (.getfield 13, 0, 9, 5, 0, 0), (.iconst 4, 0, 0, 0, 4, 0), (.aload_n 0, 0, 0, 0, 0, 0), (.getfield 145, 0, 9, 7, 0, 0), (.imul, 0, 0, 0, 0, 0), (.laload, 0, 0, 0, 0, 0), (.l2i, 0, 0, 0, 0, 0), (.istore_n 1, 0, 0, 0, 0, 0), (.iload_n 1, 0, 0, 0, 0, 0), (.iconst (-1), 0, 0, 0, (-1), 0)] (by decide +kernel) rfl rfl ⟨trivial, trivial, rfl, trivial, trivial, ⟨rfl, rfl, rfl⟩, trivial, rfl, trivial, trivial, rfl, trivial, ⟨_, rfl, vp_in_iff.mpr b1⟩, trivial, trivial, trivial, trivial, trivial⟩ ?_
    refine q_ic_ne (off := 15) (tgt := 54) (by decide +kernel) (by decide) (fun c39_2 => ?_) (fun c39_2 => ?_)
    · rw [if_neg c39_2] at h
      refine q_blk2 (pc2 := 56) (ls2 := [(2, .int 0), (1, .int (Int64.toInt32 (z.2 130 (Int32.toNatClampNeg (4 * ((z.1 128 7) - 1)))))), (0, .ref 128)]) (st2 := []) (h2 := (q_K0, q_u2 (q_u2 z.1 128 3 0) 128 7 ((z.1 128 7) - 1), z.2, q_R0)) [(.iconst 0, 0, 0, 0, 0, 0), (.istore_n 2, 0, 0, 0, 0, 0)] (by decide +kernel) rfl rfl ⟨trivial, trivial, trivial⟩ ?_
      obtain ⟨⟨⟨w5, w6, z4⟩, tg8⟩, hl7, h⟩ := Option.bind_eq_some_iff.mp h
      dsimp only at h
      refine q_pick [2, 1, 0] rfl ?_
      refine q_lp_ok (P := fun s => q_Ex _ 115 56 [(0, .ref 128), (1, .int s.1), (2, .int s.2.1)] [] (q_K0, s.2.2.1, s.2.2.2, q_R0) _ _) (X := fun u s => (u = 0 → q_Ex _ 115 92 [(0, .ref 128), (1, .int s.1), (2, .int s.2.1)] [] (q_K0, s.2.2.1, s.2.2.2, q_R0) _ _)) (fun s s2 t hh k0 kx => b_X10_undo_56 hh k0 (fun e => (kx 0 e) rfl)) hl7 ?_
      · intro e_tg8
        subst e_tg8
        rw [if_pos rfl] at h
        show q_Ex _ 115 92 [(0, .ref 128), (1, .int w5), (2, .int w6)] [] (q_K0, z4.1, z4.2, q_R0) _ _
        refine q_blk2 (pc2 := 93) (ls2 := [(0, .ref 128), (1, .int w5), (2, .int w6)]) (st2 := [.int 1]) (h2 := (q_K0, z4.1, z4.2, q_R0)) [(.iconst 1, 0, 0, 0, 1, 0)] (by decide +kernel) rfl rfl ⟨trivial, trivial⟩ ?_
        cases h
        exact q_iret .int rfl rfl (by decide +kernel)
    · rw [if_pos c39_2] at h
      refine q_blk2 (pc2 := 53) (ls2 := [(1, .int (Int64.toInt32 (z.2 130 (Int32.toNatClampNeg (4 * ((z.1 128 7) - 1)))))), (0, .ref 128)]) (st2 := [.int 1]) (h2 := (q_K0, q_u2 (q_u2 (q_u2 z.1 128 3 0) 128 7 ((z.1 128 7) - 1)) 128 6 ((z.1 128 6) - 1), z.2, q_R0)) [(.aload_n 0, 0, 0, 0, 0, 0), (.dup, 0, 0, 0, 0, 0), (.getfield 142, 0, 9, 6, 0, 0), (.iconst 1, 0, 0, 0, 1, 0), (.isub, 0, 0, 0, 0, 0), (.putfield 142, 0, 9, 6, 0, 0), (.iconst 1, 0, 0, 0, 1, 0)] (by decide +kernel) rfl rfl ⟨trivial, trivial, rfl, trivial, trivial, ⟨rfl, rfl, rfl⟩, trivial, trivial⟩ ?_
      cases h
      exact q_iret .int rfl rfl (by decide +kernel)
  · rw [if_pos c9_1] at h
    refine q_blk2 (pc2 := 13) (ls2 := [(0, .ref 128)]) (st2 := [.int 0]) (h2 := (q_K0, q_u2 z.1 128 3 0, z.2, q_R0)) [(.iconst 0, 0, 0, 0, 0, 0)] (by decide +kernel) rfl rfl ⟨trivial, trivial⟩ ?_
    cases h
    exact q_iret .int rfl rfl (by decide +kernel)
/-- RootFormsModel.isPlace(I)Z -/
def F_X10_isPlace (z : q_Z) (l1 : Int32) : Option (Int32 × q_Z) :=
  (F_X10_in z (Int32.toInt64 l1) 0 (Int32.toInt64 ((z.1 128 6) - 1))).bind fun (r1, z2) =>
    if r1 = (0 : Int32) ∨ r1 = (1 : Int32) then
      some (r1, z2)
    else none
set_option maxRecDepth 100000 in
set_option maxHeartbeats 4000000 in
theorem s_X10_isPlace {z zR : q_Z} {l1 : Int32} {rv : Int32} (h : F_X10_isPlace z l1 = some (rv, zR)) : q_Ca 116 [.ref 128, .int l1] (q_K0, z.1, z.2, q_R0) (some (.int rv)) (q_K0, zR.1, zR.2, q_R0) := by
  refine q_Ca_of (by decide) (Nat.le_of_ble_eq_true rfl) ?_
  show q_Ex none 116 0 [(0, .ref 128), (1, .int l1)] [] (q_K0, z.1, z.2, q_R0) _ _
  unfold F_X10_isPlace at h
  refine q_blk2 (pc2 := 11) (ls2 := [(0, .ref 128), (1, .int l1)]) (st2 := [.long (Int32.toInt64 ((z.1 128 6) - 1)), .long 0, .long (Int32.toInt64 l1), .ref 128]) (h2 := (q_K0, z.1, z.2, q_R0)) [(.aload_n 0, 0, 0, 0, 0, 0), (.iload_n 1, 0, 0, 0, 0, 0), (.i2l, 0, 0, 0, 0, 0), (.lconst 0, 0, 0, 0, 0, 0), (.aload_n 0, 0, 0, 0, 0, 0), (.getfield 142, 0, 9, 6, 0, 0), (.iconst 1, 0, 0, 0, 1, 0), (.isub, 0, 0, 0, 0, 0), (.i2l, 0, 0, 0, 0, 0)] (by decide +kernel) rfl rfl ⟨trivial, trivial, trivial, trivial, trivial, rfl, trivial, trivial, trivial, trivial⟩ ?_
  obtain ⟨⟨r1, z2⟩, hc4, h⟩ := Option.bind_eq_some_iff.mp h
  dsimp only at h
  refine q_cV1 (idx := 138) (v := .int r1) (h1 := (q_K0, z2.1, z2.2, q_R0)) [.long (Int32.toInt64 ((z.1 128 6) - 1)), .long 0, .long (Int32.toInt64 l1), .ref 128] 99 128 9 [.long (Int32.toInt64 l1), .long 0, .long (Int32.toInt64 ((z.1 128 6) - 1))] [] rfl (by decide +kernel) (by decide +kernel) rfl (Nat.le_of_ble_eq_true rfl) rfl (by decide) (by decide +kernel) (by decide +kernel) (s_X10_in hc4) ?_
  have b3 : r1 = (0 : Int32) ∨ r1 = (1 : Int32) := by
    by_cases q : r1 = (0 : Int32) ∨ r1 = (1 : Int32)
    · exact q
    · rw [if_neg q] at h; cases h
  rw [if_pos b3] at h
  cases h
  exact q_iret .boolean rfl (q_bo_n b3) (by decide +kernel)
def T_X10_form_39 (z : q_Z) : Option (Int32 × q_Z) :=
  (F_X10_no z 1).bind fun (r1, z2) =>
    some (r1, z2)
set_option maxRecDepth 100000 in
set_option maxHeartbeats 4000000 in
theorem t_X10_form_39 {z zR : q_Z} {rv : Int32} (h : T_X10_form_39 z = some (rv, zR)) : q_Ex none 117 39 [(0, .ref 128)] [] (q_K0, z.1, z.2, q_R0) (some (.int rv)) (q_K0, zR.1, zR.2, q_R0) := by
  unfold T_X10_form_39 at h
  refine q_blk2 (pc2 := 41) (ls2 := [(0, .ref 128)]) (st2 := [.int 1, .ref 128]) (h2 := (q_K0, z.1, z.2, q_R0)) [(.aload_n 0, 0, 0, 0, 0, 0), (.iconst 1, 0, 0, 0, 1, 0)] (by decide +kernel) rfl rfl ⟨trivial, trivial, trivial⟩ ?_
  obtain ⟨⟨r1, z2⟩, hc3, h⟩ := Option.bind_eq_some_iff.mp h
  dsimp only at h
  refine q_cV1 (idx := 152) (v := .int r1) (h1 := (q_K0, z2.1, z2.2, q_R0)) [.int 1, .ref 128] 98 128 9 [.int 1] [] rfl (by decide +kernel) (by decide +kernel) rfl (Nat.le_of_ble_eq_true rfl) rfl (by decide) (by decide +kernel) (by decide +kernel) (s_X10_no hc3) ?_
  cases h
  exact q_iret .int rfl rfl (by decide +kernel)
def T_X10_form_71 (z : q_Z) : Option (Int32 × q_Z) :=
  (F_X10_no z 4).bind fun (r10, z11) =>
    some (r10, z11)
set_option maxRecDepth 100000 in
set_option maxHeartbeats 4000000 in
theorem t_X10_form_71 {z zR : q_Z} {rv : Int32} (h : T_X10_form_71 z = some (rv, zR)) : q_Ex none 117 71 [(0, .ref 128)] [] (q_K0, z.1, z.2, q_R0) (some (.int rv)) (q_K0, zR.1, zR.2, q_R0) := by
  unfold T_X10_form_71 at h
  refine q_blk2 (pc2 := 73) (ls2 := [(0, .ref 128)]) (st2 := [.int 4, .ref 128]) (h2 := (q_K0, z.1, z.2, q_R0)) [(.aload_n 0, 0, 0, 0, 0, 0), (.iconst 4, 0, 0, 0, 4, 0)] (by decide +kernel) rfl rfl ⟨trivial, trivial, trivial⟩ ?_
  obtain ⟨⟨r10, z11⟩, hc12, h⟩ := Option.bind_eq_some_iff.mp h
  dsimp only at h
  refine q_cV1 (idx := 152) (v := .int r10) (h1 := (q_K0, z11.1, z11.2, q_R0)) [.int 4, .ref 128] 98 128 9 [.int 4] [] rfl (by decide +kernel) (by decide +kernel) rfl (Nat.le_of_ble_eq_true rfl) rfl (by decide) (by decide +kernel) (by decide +kernel) (s_X10_no hc12) ?_
  cases h
  exact q_iret .int rfl rfl (by decide +kernel)
/-- RootFormsModel.form(II)I -/
def F_X10_form (z : q_Z) (l1 : Int32) (l2 : Int32) : Option (Int32 × q_Z) :=
  if l1 = (0 : Int32) then
    T_X10_form_39 (q_u2 z.1 128 3 0, z.2)
  else
    (F_X10_in (q_u2 z.1 128 3 0, z.2) (Int32.toInt64 l1) (-1000000) 1000000).bind fun (r4, z5) =>
      if r4 = (0 : Int32) then
        T_X10_form_39 z5
      else
        (F_X10_in z5 (Int32.toInt64 l2) (-1000000) 1000000).bind fun (r6, z7) =>
          if r6 = (0 : Int32) then
            T_X10_form_39 z7
          else
            (F_X10_isForm z7 (Int32.toInt64 l1) (Int32.toInt64 l2)).bind fun (r8, z9) =>
              if r8 = (0 : Int32) then
                T_X10_form_71 z9
              else
                (F_X10_abs z9 (z9.2 128 14)).bind fun (r13, z14) =>
                  if r13 ≤ (1000000 : Int64) then
                    if (z14.1 128 6) = (40 : Int32) then
                      (F_X10_no z14 3).bind fun (r19, z20) =>
                        some (r19, z20)
                    else
                      (F_X10_lay z14 (z14.1 128 6)).bind fun (_, z16) =>
                        (F_X10_act (q_u2 z16.1 128 6 ((z16.1 128 6) + 1), z16.2) (-1)).bind fun (_, z18) =>
                          some ((z18.1 128 6) - 1, (q_u2 z18.1 128 2 0, z18.2))
                  else
                    T_X10_form_71 z14
set_option maxRecDepth 100000 in
set_option maxHeartbeats 4000000 in
theorem s_X10_form {z zR : q_Z} {l1 : Int32} {l2 : Int32} {rv : Int32} (h : F_X10_form z l1 l2 = some (rv, zR)) : q_Ca 117 [.ref 128, .int l1, .int l2] (q_K0, z.1, z.2, q_R0) (some (.int rv)) (q_K0, zR.1, zR.2, q_R0) := by
  refine q_Ca_of (by decide) (Nat.le_of_ble_eq_true rfl) ?_
  show q_Ex none 117 0 [(0, .ref 128), (1, .int l1), (2, .int l2)] [] (q_K0, z.1, z.2, q_R0) _ _
  unfold F_X10_form at h
  refine q_blk2 (pc2 := 6) (ls2 := [(0, .ref 128), (1, .int l1), (2, .int l2)]) (st2 := [.int l1]) (h2 := (q_K0, q_u2 z.1 128 3 0, z.2, q_R0)) [(.aload_n 0, 0, 0, 0, 0, 0), (.iconst 0, 0, 0, 0, 0, 0), (.putfield 57, 0, 9, 3, 0, 0), (.iload_n 1, 0, 0, 0, 0, 0)] (by decide +kernel) rfl rfl ⟨trivial, trivial, ⟨rfl, rfl, rfl⟩, trivial, trivial⟩ ?_
  refine q_if_eq (off := 33) (tgt := 39) (by decide +kernel) (by decide) (fun c6_1 => ?_) (fun c6_1 => ?_)
  · rw [if_pos c6_1] at h
    refine q_pick [0] rfl ?_
    exact t_X10_form_39 h
  · rw [if_neg c6_1] at h
    refine q_blk2 (pc2 := 18) (ls2 := [(0, .ref 128), (1, .int l1), (2, .int l2)]) (st2 := [.long 1000000, .long (-1000000), .long (Int32.toInt64 l1), .ref 128]) (h2 := (q_K0, q_u2 z.1 128 3 0, z.2, q_R0)) [(.aload_n 0, 0, 0, 0, 0, 0), (.iload_n 1, 0, 0, 0, 0, 0), (.i2l, 0, 0, 0, 0, 0), (.ldc2_w 148, 0, 0, 0, 0, (-1000000)), (.ldc2_w 150, 0, 0, 0, 0, 1000000)] (by decide +kernel) rfl rfl ⟨trivial, trivial, trivial, trivial, trivial, trivial⟩ ?_
    obtain ⟨⟨r4, z5⟩, hc21, h⟩ := Option.bind_eq_some_iff.mp h
    dsimp only at h
    refine q_cV1 (idx := 138) (v := .int r4) (h1 := (q_K0, z5.1, z5.2, q_R0)) [.long 1000000, .long (-1000000), .long (Int32.toInt64 l1), .ref 128] 99 128 9 [.long (Int32.toInt64 l1), .long (-1000000), .long 1000000] [] rfl (by decide +kernel) (by decide +kernel) rfl (Nat.le_of_ble_eq_true rfl) rfl (by decide) (by decide +kernel) (by decide +kernel) (s_X10_in hc21) ?_
    refine q_if_eq (off := 18) (tgt := 39) (by decide +kernel) (by decide) (fun c21_2 => ?_) (fun c21_2 => ?_)
    · rw [if_pos c21_2] at h
      refine q_pick [0] rfl ?_
      exact t_X10_form_39 h
    · rw [if_neg c21_2] at h
      refine q_blk2 (pc2 := 33) (ls2 := [(0, .ref 128), (1, .int l1), (2, .int l2)]) (st2 := [.long 1000000, .long (-1000000), .long (Int32.toInt64 l2), .ref 128]) (h2 := (q_K0, z5.1, z5.2, q_R0)) [(.aload_n 0, 0, 0, 0, 0, 0), (.iload_n 2, 0, 0, 0, 0, 0), (.i2l, 0, 0, 0, 0, 0), (.ldc2_w 148, 0, 0, 0, 0, (-1000000)), (.ldc2_w 150, 0, 0, 0, 0, 1000000)] (by decide +kernel) rfl rfl ⟨trivial, trivial, trivial, trivial, trivial, trivial⟩ ?_
      obtain ⟨⟨r6, z7⟩, hc22, h⟩ := Option.bind_eq_some_iff.mp h
      dsimp only at h
      refine q_cV1 (idx := 138) (v := .int r6) (h1 := (q_K0, z7.1, z7.2, q_R0)) [.long 1000000, .long (-1000000), .long (Int32.toInt64 l2), .ref 128] 99 128 9 [.long (Int32.toInt64 l2), .long (-1000000), .long 1000000] [] rfl (by decide +kernel) (by decide +kernel) rfl (Nat.le_of_ble_eq_true rfl) rfl (by decide) (by decide +kernel) (by decide +kernel) (s_X10_in hc22) ?_
      refine q_if_ne (off := 9) (tgt := 45) (by decide +kernel) (by decide) (fun c36_3 => ?_) (fun c36_3 => ?_)
      · rw [if_neg c36_3] at h
        refine q_blk2 (pc2 := 50) (ls2 := [(0, .ref 128), (1, .int l1), (2, .int l2)]) (st2 := [.long (Int32.toInt64 l2), .long (Int32.toInt64 l1), .ref 128]) (h2 := (q_K0, z7.1, z7.2, q_R0)) [(.aload_n 0, 0, 0, 0, 0, 0), (.iload_n 1, 0, 0, 0, 0, 0), (.i2l, 0, 0, 0, 0, 0), (.iload_n 2, 0, 0, 0, 0, 0), (.i2l, 0, 0, 0, 0, 0)] (by decide +kernel) rfl rfl ⟨trivial, trivial, trivial, trivial, trivial, trivial⟩ ?_
        obtain ⟨⟨r8, z9⟩, hc23, h⟩ := Option.bind_eq_some_iff.mp h
        dsimp only at h
        refine q_cV1 (idx := 119) (v := .int r8) (h1 := (q_K0, z9.1, z9.2, q_R0)) [.long (Int32.toInt64 l2), .long (Int32.toInt64 l1), .ref 128] 105 128 9 [.long (Int32.toInt64 l1), .long (Int32.toInt64 l2)] [] rfl (by decide +kernel) (by decide +kernel) rfl (Nat.le_of_ble_eq_true rfl) rfl (by decide) (by decide +kernel) (by decide +kernel) (s_X10_isForm hc23) ?_
        refine q_if_eq (off := 18) (tgt := 71) (by decide +kernel) (by decide) (fun c53_4 => ?_) (fun c53_4 => ?_)
        · rw [if_pos c53_4] at h
          refine q_pick [0] rfl ?_
          exact t_X10_form_71 h
        · rw [if_neg c53_4] at h
          refine q_blk2 (pc2 := 61) (ls2 := [(0, .ref 128), (1, .int l1), (2, .int l2)]) (st2 := [.long (z9.2 128 14), .ref 128]) (h2 := (q_K0, z9.1, z9.2, q_R0)) [(.aload_n 0, 0, 0, 0, 0, 0), (.aload_n 0, 0, 0, 0, 0, 0), (.getfield 79, 0, 9, 14, 0, 0)] (by decide +kernel) rfl rfl ⟨trivial, trivial, rfl, trivial⟩ ?_
          obtain ⟨⟨r13, z14⟩, hc24, h⟩ := Option.bind_eq_some_iff.mp h
          dsimp only at h
          refine q_cV1 (idx := 64) (v := .long r13) (h1 := (q_K0, z14.1, z14.2, q_R0)) [.long (z9.2 128 14), .ref 128] 100 128 9 [.long (z9.2 128 14)] [] rfl (by decide +kernel) (by decide +kernel) rfl (Nat.le_of_ble_eq_true rfl) rfl (by decide) (by decide +kernel) (by decide +kernel) (s_X10_abs hc24) ?_
          refine q_blk2 (pc2 := 67) (ls2 := [(0, .ref 128), (1, .int l1), (2, .int l2)]) (st2 := [.long 1000000, .long r13]) (h2 := (q_K0, z14.1, z14.2, q_R0)) [(.ldc2_w 150, 0, 0, 0, 0, 1000000)] (by decide +kernel) rfl rfl ⟨trivial, trivial⟩ ?_
          refine q_lc_le (off := 9) (tgt := 77) (by decide +kernel) (by decide +kernel) (by decide) (fun c67_5 => ?_) (fun c67_5 => ?_)
          · rw [if_pos c67_5] at h
            refine q_blk2 (pc2 := 83) (ls2 := [(0, .ref 128), (1, .int l1), (2, .int l2)]) (st2 := [.int 40, .int (z14.1 128 6)]) (h2 := (q_K0, z14.1, z14.2, q_R0)) [(.aload_n 0, 0, 0, 0, 0, 0), (.getfield 142, 0, 9, 6, 0, 0), (.bipush 40, 0, 0, 0, 40, 0)] (by decide +kernel) rfl rfl ⟨trivial, rfl, trivial, trivial⟩ ?_
            refine q_ic_ne (off := 9) (tgt := 92) (by decide +kernel) (by decide) (fun c83_6 => ?_) (fun c83_6 => ?_)
            · rw [if_neg c83_6] at h
              refine q_blk2 (pc2 := 97) (ls2 := [(0, .ref 128), (1, .int l1), (2, .int l2)]) (st2 := [.int (z14.1 128 6), .ref 128]) (h2 := (q_K0, z14.1, z14.2, q_R0)) [(.aload_n 0, 0, 0, 0, 0, 0), (.aload_n 0, 0, 0, 0, 0, 0), (.getfield 142, 0, 9, 6, 0, 0)] (by decide +kernel) rfl rfl ⟨trivial, trivial, rfl, trivial⟩ ?_
              obtain ⟨⟨_, z16⟩, hc25, h⟩ := Option.bind_eq_some_iff.mp h
              dsimp only at h
              refine q_cV0 (idx := 156) (h1 := (q_K0, z16.1, z16.2, q_R0)) [.int (z14.1 128 6), .ref 128] 104 128 9 [.int (z14.1 128 6)] [] rfl (by decide +kernel) (by decide +kernel) rfl (Nat.le_of_ble_eq_true rfl) rfl (by decide) (by decide +kernel) (by decide +kernel) (s_X10_lay hc25) ?_
              refine q_blk2 (pc2 := 112) (ls2 := [(0, .ref 128), (1, .int l1), (2, .int l2)]) (st2 := [.int (-1), .ref 128]) (h2 := (q_K0, q_u2 z16.1 128 6 ((z16.1 128 6) + 1), z16.2, q_R0)) [(.aload_n 0, 0, 0, 0, 0, 0), (.dup, 0, 0, 0, 0, 0), (.getfield 142, 0, 9, 6, 0, 0), (.iconst 1, 0, 0, 0, 1, 0), (.iadd, 0, 0, 0, 0, 0), (.putfield 142, 0, 9, 6, 0, 0), (.aload_n 0, 0, 0, 0, 0, 0), (.iconst (-1), 0, 0, 0, (-1), 0)] (by decide +kernel) rfl rfl ⟨trivial, trivial, rfl, trivial, trivial, ⟨rfl, rfl, rfl⟩, trivial, trivial, trivial⟩ ?_
              obtain ⟨⟨_, z18⟩, hc26, h⟩ := Option.bind_eq_some_iff.mp h
              dsimp only at h
              refine q_cV0 (idx := 159) (h1 := (q_K0, z18.1, z18.2, q_R0)) [.int (-1), .ref 128] 114 128 9 [.int (-1)] [] rfl (by decide +kernel) (by decide +kernel) rfl (Nat.le_of_ble_eq_true rfl) rfl (by decide) (by decide +kernel) (by decide +kernel) (s_X10_act hc26) ?_
              refine q_blk2 (pc2 := 126) (ls2 := [(0, .ref 128), (1, .int l1), (2, .int l2)]) (st2 := [.int ((z18.1 128 6) - 1)]) (h2 := (q_K0, q_u2 z18.1 128 2 0, z18.2, q_R0)) [(.aload_n 0, 0, 0, 0, 0, 0), (.iconst 0, 0, 0, 0, 0, 0), (.putfield 61, 0, 9, 2, 0, 0), (.aload_n 0, 0, 0, 0, 0, 0), (.getfield 142, 0, 9, 6, 0, 0), (.iconst 1, 0, 0, 0, 1, 0), (.isub, 0, 0, 0, 0, 0)] (by decide +kernel) rfl rfl ⟨trivial, trivial, ⟨rfl, rfl, rfl⟩, trivial, rfl, trivial, trivial, trivial⟩ ?_
              cases h
              exact q_iret .int rfl rfl (by decide +kernel)
            · rw [if_pos c83_6] at h
              refine q_blk2 (pc2 := 88) (ls2 := [(0, .ref 128), (1, .int l1), (2, .int l2)]) (st2 := [.int 3, .ref 128]) (h2 := (q_K0, z14.1, z14.2, q_R0)) [(.aload_n 0, 0, 0, 0, 0, 0), (.iconst 3, 0, 0, 0, 3, 0)] (by decide +kernel) rfl rfl ⟨trivial, trivial, trivial⟩ ?_
              obtain ⟨⟨r19, z20⟩, hc27, h⟩ := Option.bind_eq_some_iff.mp h
              dsimp only at h
              refine q_cV1 (idx := 152) (v := .int r19) (h1 := (q_K0, z20.1, z20.2, q_R0)) [.int 3, .ref 128] 98 128 9 [.int 3] [] rfl (by decide +kernel) (by decide +kernel) rfl (Nat.le_of_ble_eq_true rfl) rfl (by decide) (by decide +kernel) (by decide +kernel) (s_X10_no hc27) ?_
              cases h
              exact q_iret .int rfl rfl (by decide +kernel)
          · rw [if_neg c67_5] at h
            refine q_pick [0] rfl ?_
            exact t_X10_form_71 h
      · rw [if_pos c36_3] at h
        refine q_pick [0] rfl ?_
        exact t_X10_form_39 h
def T_X10_number_40 (z : q_Z) : Option (Int32 × q_Z) :=
  some (0, z)
set_option maxRecDepth 100000 in
set_option maxHeartbeats 4000000 in
theorem t_X10_number_40 {z zR : q_Z} {rv : Int32} (h : T_X10_number_40 z = some (rv, zR)) : q_Ex none 118 40 [] [] (q_K0, z.1, z.2, q_R0) (some (.int rv)) (q_K0, zR.1, zR.2, q_R0) := by
  unfold T_X10_number_40 at h
  refine q_blk2 (pc2 := 41) (ls2 := []) (st2 := [.int 0]) (h2 := (q_K0, z.1, z.2, q_R0)) [(.iconst 0, 0, 0, 0, 0, 0)] (by decide +kernel) rfl rfl ⟨trivial, trivial⟩ ?_
  cases h
  exact q_iret .int rfl rfl (by decide +kernel)
/-- RootFormsModel.number(II)I -/
def F_X10_number (z : q_Z) (l1 : Int32) (l2 : Int32) : Option (Int32 × q_Z) :=
  (F_X10_isPlace (q_u2 z.1 128 3 0, z.2) l1).bind fun (r1, z2) =>
    if r1 = (0 : Int32) then
      T_X10_number_40 z2
    else
      (F_X10_in z2 (Int32.toInt64 l2) 0 2).bind fun (r3, z4) =>
        if r3 = (0 : Int32) then
          T_X10_number_40 z4
        else
          if 0 ≤ Int32.toInt ((3 * l1) + l2) ∧ Int32.toInt ((3 * l1) + l2) < 120 then
            some (Int64.toInt32 (z4.2 129 (Int32.toNatClampNeg ((3 * l1) + l2))), z4)
          else none
set_option maxRecDepth 100000 in
set_option maxHeartbeats 4000000 in
theorem s_X10_number {z zR : q_Z} {l1 : Int32} {l2 : Int32} {rv : Int32} (h : F_X10_number z l1 l2 = some (rv, zR)) : q_Ca 118 [.ref 128, .int l1, .int l2] (q_K0, z.1, z.2, q_R0) (some (.int rv)) (q_K0, zR.1, zR.2, q_R0) := by
  refine q_Ca_of (by decide) (Nat.le_of_ble_eq_true rfl) ?_
  show q_Ex none 118 0 [(0, .ref 128), (1, .int l1), (2, .int l2)] [] (q_K0, z.1, z.2, q_R0) _ _
  unfold F_X10_number at h
  refine q_blk2 (pc2 := 7) (ls2 := [(0, .ref 128), (1, .int l1), (2, .int l2)]) (st2 := [.int l1, .ref 128]) (h2 := (q_K0, q_u2 z.1 128 3 0, z.2, q_R0)) [(.aload_n 0, 0, 0, 0, 0, 0), (.iconst 0, 0, 0, 0, 0, 0), (.putfield 57, 0, 9, 3, 0, 0), (.aload_n 0, 0, 0, 0, 0, 0), (.iload_n 1, 0, 0, 0, 0, 0)] (by decide +kernel) rfl rfl ⟨trivial, trivial, ⟨rfl, rfl, rfl⟩, trivial, trivial, trivial⟩ ?_
  obtain ⟨⟨r1, z2⟩, hc6, h⟩ := Option.bind_eq_some_iff.mp h
  dsimp only at h
  refine q_cV1 (idx := 162) (v := .int r1) (h1 := (q_K0, z2.1, z2.2, q_R0)) [.int l1, .ref 128] 116 128 9 [.int l1] [] rfl (by decide +kernel) (by decide +kernel) rfl (Nat.le_of_ble_eq_true rfl) rfl (by decide) (by decide +kernel) (by decide +kernel) (s_X10_isPlace hc6) ?_
  refine q_if_eq (off := 30) (tgt := 40) (by decide +kernel) (by decide) (fun c10_1 => ?_) (fun c10_1 => ?_)
  · rw [if_pos c10_1] at h
    refine q_pick [] rfl ?_
    exact t_X10_number_40 h
  · rw [if_neg c10_1] at h
    refine q_blk2 (pc2 := 20) (ls2 := [(0, .ref 128), (1, .int l1), (2, .int l2)]) (st2 := [.long 2, .long 0, .long (Int32.toInt64 l2), .ref 128]) (h2 := (q_K0, z2.1, z2.2, q_R0)) [(.aload_n 0, 0, 0, 0, 0, 0), (.iload_n 2, 0, 0, 0, 0, 0), (.i2l, 0, 0, 0, 0, 0), (.lconst 0, 0, 0, 0, 0, 0), (.ldc2_w 70, 0, 0, 0, 0, 2)] (by decide +kernel) rfl rfl ⟨trivial, trivial, trivial, trivial, trivial, trivial⟩ ?_
    obtain ⟨⟨r3, z4⟩, hc7, h⟩ := Option.bind_eq_some_iff.mp h
    dsimp only at h
    refine q_cV1 (idx := 138) (v := .int r3) (h1 := (q_K0, z4.1, z4.2, q_R0)) [.long 2, .long 0, .long (Int32.toInt64 l2), .ref 128] 99 128 9 [.long (Int32.toInt64 l2), .long 0, .long 2] [] rfl (by decide +kernel) (by decide +kernel) rfl (Nat.le_of_ble_eq_true rfl) rfl (by decide) (by decide +kernel) (by decide +kernel) (s_X10_in hc7) ?_
    refine q_if_eq (off := 17) (tgt := 40) (by decide +kernel) (by decide) (fun c23_2 => ?_) (fun c23_2 => ?_)
    · rw [if_pos c23_2] at h
      refine q_pick [] rfl ?_
      exact t_X10_number_40 h
    · rw [if_neg c23_2] at h
      have b5 : 0 ≤ Int32.toInt ((3 * l1) + l2) ∧ Int32.toInt ((3 * l1) + l2) < 120 := by
        by_cases q : 0 ≤ Int32.toInt ((3 * l1) + l2) ∧ Int32.toInt ((3 * l1) + l2) < 120
        · exact q
        · rw [if_neg q] at h; cases h
      rw [if_pos b5] at h
      refine q_blk2 (pc2 := 37) (ls2 := [(0, .ref 128), (1, .int l1), (2, .int l2)]) (st2 := [.int (Int64.toInt32 (z4.2 129 (Int32.toNatClampNeg ((3 * l1) + l2))))]) (h2 := (q_K0, z4.1, z4.2, q_R0)) [(.aload_n 0, 0, 0, 0, 0, 0), (.getfield 7, 0, 9, 4, 0, 0), (.iconst 3, 0, 0, 0, 3, 0), (.iload_n 1, 0, 0, 0, 0, 0), (.imul, 0, 0, 0, 0, 0), (.iload_n 2, 0, 0, 0, 0, 0), (.iadd, 0, 0, 0, 0, 0), (.laload, 0, 0, 0, 0, 0), (.l2i, 0, 0, 0, 0, 0)] (by decide +kernel) rfl rfl ⟨trivial, rfl, trivial, trivial, trivial, trivial, trivial, ⟨_, rfl, vp_in_iff.mpr b5⟩, trivial, trivial⟩ ?_
      refine q_goto (off := 4) (tgt := 41) (by decide +kernel) (by decide) ?_
      cases h
      exact q_iret .int rfl rfl (by decide +kernel)
/-- RootFormsModel.least(I)I -/
def F_X10_least (z : q_Z) (l1 : Int32) : Option (Int32 × q_Z) :=
  (F_X10_isPlace (q_u2 z.1 128 3 0, z.2) l1).bind fun (r1, z2) =>
    if r1 = (0 : Int32) then
      (F_X10_no z2 2).bind fun (r7, z8) =>
        some (r7, z8)
    else
      (F_X10_take (q_u2 z2.1 128 2 0, z2.2) l1).bind fun (_, z4) =>
        (F_X10_isLeast z4).bind fun (r5, z6) =>
          if r5 = (0 : Int32) then
            some (0, z6)
          else
            some (1, z6)
set_option maxRecDepth 100000 in
set_option maxHeartbeats 4000000 in
theorem s_X10_least {z zR : q_Z} {l1 : Int32} {rv : Int32} (h : F_X10_least z l1 = some (rv, zR)) : q_Ca 119 [.ref 128, .int l1] (q_K0, z.1, z.2, q_R0) (some (.int rv)) (q_K0, zR.1, zR.2, q_R0) := by
  refine q_Ca_of (by decide) (Nat.le_of_ble_eq_true rfl) ?_
  show q_Ex none 119 0 [(0, .ref 128), (1, .int l1)] [] (q_K0, z.1, z.2, q_R0) _ _
  unfold F_X10_least at h
  refine q_blk2 (pc2 := 7) (ls2 := [(0, .ref 128), (1, .int l1)]) (st2 := [.int l1, .ref 128]) (h2 := (q_K0, q_u2 z.1 128 3 0, z.2, q_R0)) [(.aload_n 0, 0, 0, 0, 0, 0), (.iconst 0, 0, 0, 0, 0, 0), (.putfield 57, 0, 9, 3, 0, 0), (.aload_n 0, 0, 0, 0, 0, 0), (.iload_n 1, 0, 0, 0, 0, 0)] (by decide +kernel) rfl rfl ⟨trivial, trivial, ⟨rfl, rfl, rfl⟩, trivial, trivial, trivial⟩ ?_
  obtain ⟨⟨r1, z2⟩, hc9, h⟩ := Option.bind_eq_some_iff.mp h
  dsimp only at h
  refine q_cV1 (idx := 162) (v := .int r1) (h1 := (q_K0, z2.1, z2.2, q_R0)) [.int l1, .ref 128] 116 128 9 [.int l1] [] rfl (by decide +kernel) (by decide +kernel) rfl (Nat.le_of_ble_eq_true rfl) rfl (by decide) (by decide +kernel) (by decide +kernel) (s_X10_isPlace hc9) ?_
  refine q_if_ne (off := 9) (tgt := 19) (by decide +kernel) (by decide) (fun c10_1 => ?_) (fun c10_1 => ?_)
  · rw [if_neg c10_1] at h
    refine q_blk2 (pc2 := 26) (ls2 := [(0, .ref 128), (1, .int l1)]) (st2 := [.int l1, .ref 128]) (h2 := (q_K0, q_u2 z2.1 128 2 0, z2.2, q_R0)) [(.aload_n 0, 0, 0, 0, 0, 0), (.iconst 0, 0, 0, 0, 0, 0), (.putfield 61, 0, 9, 2, 0, 0), (.aload_n 0, 0, 0, 0, 0, 0), (.iload_n 1, 0, 0, 0, 0, 0)] (by decide +kernel) rfl rfl ⟨trivial, trivial, ⟨rfl, rfl, rfl⟩, trivial, trivial, trivial⟩ ?_
    obtain ⟨⟨_, z4⟩, hc10, h⟩ := Option.bind_eq_some_iff.mp h
    dsimp only at h
    refine q_cV0 (idx := 166) (h1 := (q_K0, z4.1, z4.2, q_R0)) [.int l1, .ref 128] 103 128 9 [.int l1] [] rfl (by decide +kernel) (by decide +kernel) rfl (Nat.le_of_ble_eq_true rfl) rfl (by decide) (by decide +kernel) (by decide +kernel) (s_X10_take hc10) ?_
    refine q_blk2 (pc2 := 30) (ls2 := [(0, .ref 128), (1, .int l1)]) (st2 := [.ref 128]) (h2 := (q_K0, z4.1, z4.2, q_R0)) [(.aload_n 0, 0, 0, 0, 0, 0)] (by decide +kernel) rfl rfl ⟨trivial, trivial⟩ ?_
    obtain ⟨⟨r5, z6⟩, hc11, h⟩ := Option.bind_eq_some_iff.mp h
    dsimp only at h
    refine q_cV1 (idx := 106) (v := .int r5) (h1 := (q_K0, z6.1, z6.2, q_R0)) [.ref 128] 106 128 9 [] [] rfl (by decide +kernel) (by decide +kernel) rfl (Nat.le_of_ble_eq_true rfl) rfl (by decide) (by decide +kernel) (by decide +kernel) (s_X10_isLeast hc11) ?_
    refine q_if_eq (off := 7) (tgt := 40) (by decide +kernel) (by decide) (fun c33_2 => ?_) (fun c33_2 => ?_)
    · rw [if_pos c33_2] at h
      refine q_blk2 (pc2 := 41) (ls2 := [(0, .ref 128), (1, .int l1)]) (st2 := [.int 0]) (h2 := (q_K0, z6.1, z6.2, q_R0)) [(.iconst 0, 0, 0, 0, 0, 0)] (by decide +kernel) rfl rfl ⟨trivial, trivial⟩ ?_
      cases h
      exact q_iret .int rfl rfl (by decide +kernel)
    · rw [if_neg c33_2] at h
      refine q_blk2 (pc2 := 37) (ls2 := [(0, .ref 128), (1, .int l1)]) (st2 := [.int 1]) (h2 := (q_K0, z6.1, z6.2, q_R0)) [(.iconst 1, 0, 0, 0, 1, 0)] (by decide +kernel) rfl rfl ⟨trivial, trivial⟩ ?_
      refine q_goto (off := 4) (tgt := 41) (by decide +kernel) (by decide) ?_
      cases h
      exact q_iret .int rfl rfl (by decide +kernel)
  · rw [if_pos c10_1] at h
    refine q_blk2 (pc2 := 15) (ls2 := [(0, .ref 128), (1, .int l1)]) (st2 := [.int 2, .ref 128]) (h2 := (q_K0, z2.1, z2.2, q_R0)) [(.aload_n 0, 0, 0, 0, 0, 0), (.iconst 2, 0, 0, 0, 2, 0)] (by decide +kernel) rfl rfl ⟨trivial, trivial, trivial⟩ ?_
    obtain ⟨⟨r7, z8⟩, hc12, h⟩ := Option.bind_eq_some_iff.mp h
    dsimp only at h
    refine q_cV1 (idx := 152) (v := .int r7) (h1 := (q_K0, z8.1, z8.2, q_R0)) [.int 2, .ref 128] 98 128 9 [.int 2] [] rfl (by decide +kernel) (by decide +kernel) rfl (Nat.le_of_ble_eq_true rfl) rfl (by decide) (by decide +kernel) (by decide +kernel) (s_X10_no hc12) ?_
    cases h
    exact q_iret .int rfl rfl (by decide +kernel)
/-- RootFormsModel.keepWay()V -/
def F_X10_keepWay (z : q_Z) : Option (Unit × q_Z) :=
  if 0 ≤ Int32.toInt 0 ∧ Int32.toInt 0 < 4 then
    if 0 ≤ Int32.toInt 1 ∧ Int32.toInt 1 < 4 then
      if 0 ≤ Int32.toInt 2 ∧ Int32.toInt 2 < 4 then
        if 0 ≤ Int32.toInt 3 ∧ Int32.toInt 3 < 4 then
          some ((), (z.1, q_u2 (q_u2 (q_u2 (q_u2 z.2 131 (Int32.toNatClampNeg 0) (z.2 128 15)) 131 (Int32.toNatClampNeg 1) (z.2 128 16)) 131 (Int32.toNatClampNeg 2) (z.2 128 17)) 131 (Int32.toNatClampNeg 3) (z.2 128 18)))
        else none
      else none
    else none
  else none
set_option maxRecDepth 100000 in
set_option maxHeartbeats 4000000 in
theorem s_X10_keepWay {z zR : q_Z} {rv : Unit} (h : F_X10_keepWay z = some (rv, zR)) : q_Ca 120 [.ref 128] (q_K0, z.1, z.2, q_R0) none (q_K0, zR.1, zR.2, q_R0) := by
  refine q_Ca_of (by decide) (Nat.le_of_ble_eq_true rfl) ?_
  show q_Ex none 120 0 [(0, .ref 128)] [] (q_K0, z.1, z.2, q_R0) _ _
  unfold F_X10_keepWay at h
  have b1 : 0 ≤ Int32.toInt 0 ∧ Int32.toInt 0 < 4 := by
    by_cases q : 0 ≤ Int32.toInt 0 ∧ Int32.toInt 0 < 4
    · exact q
    · rw [if_neg q] at h; cases h
  rw [if_pos b1] at h
  have b2 : 0 ≤ Int32.toInt 1 ∧ Int32.toInt 1 < 4 := by
    by_cases q : 0 ≤ Int32.toInt 1 ∧ Int32.toInt 1 < 4
    · exact q
    · rw [if_neg q] at h; cases h
  rw [if_pos b2] at h
  have b3 : 0 ≤ Int32.toInt 2 ∧ Int32.toInt 2 < 4 := by
    by_cases q : 0 ≤ Int32.toInt 2 ∧ Int32.toInt 2 < 4
    · exact q
    · rw [if_neg q] at h; cases h
  rw [if_pos b3] at h
  have b4 : 0 ≤ Int32.toInt 3 ∧ Int32.toInt 3 < 4 := by
    by_cases q : 0 ≤ Int32.toInt 3 ∧ Int32.toInt 3 < 4
    · exact q
    · rw [if_neg q] at h; cases h
  rw [if_pos b4] at h
  refine q_blk2 (pc2 := 40) (ls2 := [(0, .ref 128)]) (st2 := []) (h2 := (q_K0, z.1, q_u2 (q_u2 (q_u2 (q_u2 z.2 131 (Int32.toNatClampNeg 0) (z.2 128 15)) 131 (Int32.toNatClampNeg 1) (z.2 128 16)) 131 (Int32.toNatClampNeg 2) (z.2 128 17)) 131 (Int32.toNatClampNeg 3) (z.2 128 18), q_R0)) [(.aload_n 0, 0, 0, 0, 0, 0), (.getfield 16, 0, 9, 8, 0, 0), (.iconst 0, 0, 0, 0, 0, 0), (.aload_n 0, 0, 0, 0, 0, 0), (.getfield 94, 0, 9, 15, 0, 0), (.lastore, 0, 0, 0, 0, 0), (.aload_n 0, 0, 0, 0, 0, 0), (.getfield 16, 0, 9, 8, 0, 0), (.iconst 1, 0, 0, 0, 1, 0), (.aload_n 0, 0, 0, 0, 0, 0), (.getfield 97, 0, 9, 16, 0, 0), (.lastore, 0, 0, 0, 0, 0), (.aload_n 0, 0, 0, 0, 0, 0), (.getfield 16, 0, 9, 8, 0, 0), (.iconst 2, 0, 0, 0, 2, 0), (.aload_n 0, 0, 0, 0, 0, 0), (.getfield 100, 0, 9, 17, 0, 0), (.lastore, 0, 0, 0, 0, 0), (.aload_n 0, 0, 0, 0, 0, 0), (.getfield 16, 0, 9, 8, 0, 0), (.iconst 3, 0, 0, 0, 3, 0), (.aload_n 0, 0, 0, 0, 0, 0), (.getfield 103, 0, 9, 18, 0, 0), (.lastore, 0, 0, 0, 0, 0)] (by decide +kernel) rfl rfl ⟨trivial, rfl, trivial, trivial, rfl, ⟨_, rfl, vp_in_iff.mpr b1⟩, trivial, rfl, trivial, trivial, rfl, ⟨_, rfl, vp_in_iff.mpr b2⟩, trivial, rfl, trivial, trivial, rfl, ⟨_, rfl, vp_in_iff.mpr b3⟩, trivial, rfl, trivial, trivial, rfl, ⟨_, rfl, vp_in_iff.mpr b4⟩, trivial⟩ ?_
  cases h
  exact q_vret rfl (by decide +kernel)
/-- RootFormsModel.step(I)I -/
def F_X10_step (z : q_Z) (l1 : Int32) : Option (Int32 × q_Z) :=
  (F_X10_isPlace (q_u2 z.1 128 3 0, z.2) l1).bind fun (r1, z2) =>
    if r1 = (0 : Int32) then
      (F_X10_no z2 2).bind fun (r15, z16) =>
        some (r15, z16)
    else
      (F_X10_act (q_u2 z2.1 128 2 0, z2.2) l1).bind fun (_, z4) =>
        (F_X10_take z4 l1).bind fun (_, z6) =>
          (F_X10_noSteps z6).bind fun (_, z8) =>
            (F_X10_steps z8).bind fun (_, z10) =>
              (F_X10_keepWay z10).bind fun (_, z12) =>
                (F_X10_lay z12 l1).bind fun (_, z14) =>
                  some (1, z14)
set_option maxRecDepth 100000 in
set_option maxHeartbeats 4000000 in
theorem s_X10_step {z zR : q_Z} {l1 : Int32} {rv : Int32} (h : F_X10_step z l1 = some (rv, zR)) : q_Ca 121 [.ref 128, .int l1] (q_K0, z.1, z.2, q_R0) (some (.int rv)) (q_K0, zR.1, zR.2, q_R0) := by
  refine q_Ca_of (by decide) (Nat.le_of_ble_eq_true rfl) ?_
  show q_Ex none 121 0 [(0, .ref 128), (1, .int l1)] [] (q_K0, z.1, z.2, q_R0) _ _
  unfold F_X10_step at h
  refine q_blk2 (pc2 := 7) (ls2 := [(0, .ref 128), (1, .int l1)]) (st2 := [.int l1, .ref 128]) (h2 := (q_K0, q_u2 z.1 128 3 0, z.2, q_R0)) [(.aload_n 0, 0, 0, 0, 0, 0), (.iconst 0, 0, 0, 0, 0, 0), (.putfield 57, 0, 9, 3, 0, 0), (.aload_n 0, 0, 0, 0, 0, 0), (.iload_n 1, 0, 0, 0, 0, 0)] (by decide +kernel) rfl rfl ⟨trivial, trivial, ⟨rfl, rfl, rfl⟩, trivial, trivial, trivial⟩ ?_
  obtain ⟨⟨r1, z2⟩, hc17, h⟩ := Option.bind_eq_some_iff.mp h
  dsimp only at h
  refine q_cV1 (idx := 162) (v := .int r1) (h1 := (q_K0, z2.1, z2.2, q_R0)) [.int l1, .ref 128] 116 128 9 [.int l1] [] rfl (by decide +kernel) (by decide +kernel) rfl (Nat.le_of_ble_eq_true rfl) rfl (by decide) (by decide +kernel) (by decide +kernel) (s_X10_isPlace hc17) ?_
  refine q_if_ne (off := 9) (tgt := 19) (by decide +kernel) (by decide) (fun c10_1 => ?_) (fun c10_1 => ?_)
  · rw [if_neg c10_1] at h
    refine q_blk2 (pc2 := 26) (ls2 := [(0, .ref 128), (1, .int l1)]) (st2 := [.int l1, .ref 128]) (h2 := (q_K0, q_u2 z2.1 128 2 0, z2.2, q_R0)) [(.aload_n 0, 0, 0, 0, 0, 0), (.iconst 0, 0, 0, 0, 0, 0), (.putfield 61, 0, 9, 2, 0, 0), (.aload_n 0, 0, 0, 0, 0, 0), (.iload_n 1, 0, 0, 0, 0, 0)] (by decide +kernel) rfl rfl ⟨trivial, trivial, ⟨rfl, rfl, rfl⟩, trivial, trivial, trivial⟩ ?_
    obtain ⟨⟨_, z4⟩, hc18, h⟩ := Option.bind_eq_some_iff.mp h
    dsimp only at h
    refine q_cV0 (idx := 159) (h1 := (q_K0, z4.1, z4.2, q_R0)) [.int l1, .ref 128] 114 128 9 [.int l1] [] rfl (by decide +kernel) (by decide +kernel) rfl (Nat.le_of_ble_eq_true rfl) rfl (by decide) (by decide +kernel) (by decide +kernel) (s_X10_act hc18) ?_
    refine q_blk2 (pc2 := 31) (ls2 := [(0, .ref 128), (1, .int l1)]) (st2 := [.int l1, .ref 128]) (h2 := (q_K0, z4.1, z4.2, q_R0)) [(.aload_n 0, 0, 0, 0, 0, 0), (.iload_n 1, 0, 0, 0, 0, 0)] (by decide +kernel) rfl rfl ⟨trivial, trivial, trivial⟩ ?_
    obtain ⟨⟨_, z6⟩, hc19, h⟩ := Option.bind_eq_some_iff.mp h
    dsimp only at h
    refine q_cV0 (idx := 166) (h1 := (q_K0, z6.1, z6.2, q_R0)) [.int l1, .ref 128] 103 128 9 [.int l1] [] rfl (by decide +kernel) (by decide +kernel) rfl (Nat.le_of_ble_eq_true rfl) rfl (by decide) (by decide +kernel) (by decide +kernel) (s_X10_take hc19) ?_
    refine q_blk2 (pc2 := 35) (ls2 := [(0, .ref 128), (1, .int l1)]) (st2 := [.ref 128]) (h2 := (q_K0, z6.1, z6.2, q_R0)) [(.aload_n 0, 0, 0, 0, 0, 0)] (by decide +kernel) rfl rfl ⟨trivial, trivial⟩ ?_
    obtain ⟨⟨_, z8⟩, hc20, h⟩ := Option.bind_eq_some_iff.mp h
    dsimp only at h
    refine q_cV0 (idx := 169) (h1 := (q_K0, z8.1, z8.2, q_R0)) [.ref 128] 107 128 9 [] [] rfl (by decide +kernel) (by decide +kernel) rfl (Nat.le_of_ble_eq_true rfl) rfl (by decide) (by decide +kernel) (by decide +kernel) (s_X10_noSteps hc20) ?_
    refine q_blk2 (pc2 := 39) (ls2 := [(0, .ref 128), (1, .int l1)]) (st2 := [.ref 128]) (h2 := (q_K0, z8.1, z8.2, q_R0)) [(.aload_n 0, 0, 0, 0, 0, 0)] (by decide +kernel) rfl rfl ⟨trivial, trivial⟩ ?_
    obtain ⟨⟨_, z10⟩, hc21, h⟩ := Option.bind_eq_some_iff.mp h
    dsimp only at h
    refine q_cV0 (idx := 110) (h1 := (q_K0, z10.1, z10.2, q_R0)) [.ref 128] 108 128 9 [] [] rfl (by decide +kernel) (by decide +kernel) rfl (Nat.le_of_ble_eq_true rfl) rfl (by decide) (by decide +kernel) (by decide +kernel) (s_X10_steps hc21) ?_
    refine q_blk2 (pc2 := 43) (ls2 := [(0, .ref 128), (1, .int l1)]) (st2 := [.ref 128]) (h2 := (q_K0, z10.1, z10.2, q_R0)) [(.aload_n 0, 0, 0, 0, 0, 0)] (by decide +kernel) rfl rfl ⟨trivial, trivial⟩ ?_
    obtain ⟨⟨_, z12⟩, hc22, h⟩ := Option.bind_eq_some_iff.mp h
    dsimp only at h
    refine q_cV0 (idx := 172) (h1 := (q_K0, z12.1, z12.2, q_R0)) [.ref 128] 120 128 9 [] [] rfl (by decide +kernel) (by decide +kernel) rfl (Nat.le_of_ble_eq_true rfl) rfl (by decide) (by decide +kernel) (by decide +kernel) (s_X10_keepWay hc22) ?_
    refine q_blk2 (pc2 := 48) (ls2 := [(0, .ref 128), (1, .int l1)]) (st2 := [.int l1, .ref 128]) (h2 := (q_K0, z12.1, z12.2, q_R0)) [(.aload_n 0, 0, 0, 0, 0, 0), (.iload_n 1, 0, 0, 0, 0, 0)] (by decide +kernel) rfl rfl ⟨trivial, trivial, trivial⟩ ?_
    obtain ⟨⟨_, z14⟩, hc23, h⟩ := Option.bind_eq_some_iff.mp h
    dsimp only at h
    refine q_cV0 (idx := 156) (h1 := (q_K0, z14.1, z14.2, q_R0)) [.int l1, .ref 128] 104 128 9 [.int l1] [] rfl (by decide +kernel) (by decide +kernel) rfl (Nat.le_of_ble_eq_true rfl) rfl (by decide) (by decide +kernel) (by decide +kernel) (s_X10_lay hc23) ?_
    refine q_blk2 (pc2 := 52) (ls2 := [(0, .ref 128), (1, .int l1)]) (st2 := [.int 1]) (h2 := (q_K0, z14.1, z14.2, q_R0)) [(.iconst 1, 0, 0, 0, 1, 0)] (by decide +kernel) rfl rfl ⟨trivial, trivial⟩ ?_
    cases h
    exact q_iret .int rfl rfl (by decide +kernel)
  · rw [if_pos c10_1] at h
    refine q_blk2 (pc2 := 15) (ls2 := [(0, .ref 128), (1, .int l1)]) (st2 := [.int 2, .ref 128]) (h2 := (q_K0, z2.1, z2.2, q_R0)) [(.aload_n 0, 0, 0, 0, 0, 0), (.iconst 2, 0, 0, 0, 2, 0)] (by decide +kernel) rfl rfl ⟨trivial, trivial, trivial⟩ ?_
    obtain ⟨⟨r15, z16⟩, hc24, h⟩ := Option.bind_eq_some_iff.mp h
    dsimp only at h
    refine q_cV1 (idx := 152) (v := .int r15) (h1 := (q_K0, z16.1, z16.2, q_R0)) [.int 2, .ref 128] 98 128 9 [.int 2] [] rfl (by decide +kernel) (by decide +kernel) rfl (Nat.le_of_ble_eq_true rfl) rfl (by decide) (by decide +kernel) (by decide +kernel) (s_X10_no hc24) ?_
    cases h
    exact q_iret .int rfl rfl (by decide +kernel)
/-- RootFormsModel.reduce(I)I -/
def F_X10_reduce (z : q_Z) (l1 : Int32) : Option (Int32 × q_Z) :=
  (F_X10_isPlace (q_u2 z.1 128 3 0, z.2) l1).bind fun (r1, z2) =>
    if r1 = (0 : Int32) then
      (F_X10_no z2 2).bind fun (r15, z16) =>
        some (r15, z16)
    else
      (F_X10_act (q_u2 z2.1 128 2 0, z2.2) l1).bind fun (_, z4) =>
        (F_X10_take z4 l1).bind fun (_, z6) =>
          (F_X10_noSteps z6).bind fun (_, z8) =>
            (F_X10_reduces z8).bind fun (r9, z10) =>
              (F_X10_keepWay z10).bind fun (_, z12) =>
                (F_X10_lay z12 l1).bind fun (_, z14) =>
                  some (r9, z14)
set_option maxRecDepth 100000 in
set_option maxHeartbeats 4000000 in
theorem s_X10_reduce {z zR : q_Z} {l1 : Int32} {rv : Int32} (h : F_X10_reduce z l1 = some (rv, zR)) : q_Ca 122 [.ref 128, .int l1] (q_K0, z.1, z.2, q_R0) (some (.int rv)) (q_K0, zR.1, zR.2, q_R0) := by
  refine q_Ca_of (by decide) (Nat.le_of_ble_eq_true rfl) ?_
  show q_Ex none 122 0 [(0, .ref 128), (1, .int l1)] [] (q_K0, z.1, z.2, q_R0) _ _
  unfold F_X10_reduce at h
  refine q_blk2 (pc2 := 7) (ls2 := [(0, .ref 128), (1, .int l1)]) (st2 := [.int l1, .ref 128]) (h2 := (q_K0, q_u2 z.1 128 3 0, z.2, q_R0)) [(.aload_n 0, 0, 0, 0, 0, 0), (.iconst 0, 0, 0, 0, 0, 0), (.putfield 57, 0, 9, 3, 0, 0), (.aload_n 0, 0, 0, 0, 0, 0), (.iload_n 1, 0, 0, 0, 0, 0)] (by decide +kernel) rfl rfl ⟨trivial, trivial, ⟨rfl, rfl, rfl⟩, trivial, trivial, trivial⟩ ?_
  obtain ⟨⟨r1, z2⟩, hc17, h⟩ := Option.bind_eq_some_iff.mp h
  dsimp only at h
  refine q_cV1 (idx := 162) (v := .int r1) (h1 := (q_K0, z2.1, z2.2, q_R0)) [.int l1, .ref 128] 116 128 9 [.int l1] [] rfl (by decide +kernel) (by decide +kernel) rfl (Nat.le_of_ble_eq_true rfl) rfl (by decide) (by decide +kernel) (by decide +kernel) (s_X10_isPlace hc17) ?_
  refine q_if_ne (off := 9) (tgt := 19) (by decide +kernel) (by decide) (fun c10_1 => ?_) (fun c10_1 => ?_)
  · rw [if_neg c10_1] at h
    refine q_blk2 (pc2 := 26) (ls2 := [(0, .ref 128), (1, .int l1)]) (st2 := [.int l1, .ref 128]) (h2 := (q_K0, q_u2 z2.1 128 2 0, z2.2, q_R0)) [(.aload_n 0, 0, 0, 0, 0, 0), (.iconst 0, 0, 0, 0, 0, 0), (.putfield 61, 0, 9, 2, 0, 0), (.aload_n 0, 0, 0, 0, 0, 0), (.iload_n 1, 0, 0, 0, 0, 0)] (by decide +kernel) rfl rfl ⟨trivial, trivial, ⟨rfl, rfl, rfl⟩, trivial, trivial, trivial⟩ ?_
    obtain ⟨⟨_, z4⟩, hc18, h⟩ := Option.bind_eq_some_iff.mp h
    dsimp only at h
    refine q_cV0 (idx := 159) (h1 := (q_K0, z4.1, z4.2, q_R0)) [.int l1, .ref 128] 114 128 9 [.int l1] [] rfl (by decide +kernel) (by decide +kernel) rfl (Nat.le_of_ble_eq_true rfl) rfl (by decide) (by decide +kernel) (by decide +kernel) (s_X10_act hc18) ?_
    refine q_blk2 (pc2 := 31) (ls2 := [(0, .ref 128), (1, .int l1)]) (st2 := [.int l1, .ref 128]) (h2 := (q_K0, z4.1, z4.2, q_R0)) [(.aload_n 0, 0, 0, 0, 0, 0), (.iload_n 1, 0, 0, 0, 0, 0)] (by decide +kernel) rfl rfl ⟨trivial, trivial, trivial⟩ ?_
    obtain ⟨⟨_, z6⟩, hc19, h⟩ := Option.bind_eq_some_iff.mp h
    dsimp only at h
    refine q_cV0 (idx := 166) (h1 := (q_K0, z6.1, z6.2, q_R0)) [.int l1, .ref 128] 103 128 9 [.int l1] [] rfl (by decide +kernel) (by decide +kernel) rfl (Nat.le_of_ble_eq_true rfl) rfl (by decide) (by decide +kernel) (by decide +kernel) (s_X10_take hc19) ?_
    refine q_blk2 (pc2 := 35) (ls2 := [(0, .ref 128), (1, .int l1)]) (st2 := [.ref 128]) (h2 := (q_K0, z6.1, z6.2, q_R0)) [(.aload_n 0, 0, 0, 0, 0, 0)] (by decide +kernel) rfl rfl ⟨trivial, trivial⟩ ?_
    obtain ⟨⟨_, z8⟩, hc20, h⟩ := Option.bind_eq_some_iff.mp h
    dsimp only at h
    refine q_cV0 (idx := 169) (h1 := (q_K0, z8.1, z8.2, q_R0)) [.ref 128] 107 128 9 [] [] rfl (by decide +kernel) (by decide +kernel) rfl (Nat.le_of_ble_eq_true rfl) rfl (by decide) (by decide +kernel) (by decide +kernel) (s_X10_noSteps hc20) ?_
    refine q_blk2 (pc2 := 39) (ls2 := [(0, .ref 128), (1, .int l1)]) (st2 := [.ref 128]) (h2 := (q_K0, z8.1, z8.2, q_R0)) [(.aload_n 0, 0, 0, 0, 0, 0)] (by decide +kernel) rfl rfl ⟨trivial, trivial⟩ ?_
    obtain ⟨⟨r9, z10⟩, hc21, h⟩ := Option.bind_eq_some_iff.mp h
    dsimp only at h
    refine q_cV1 (idx := 130) (v := .int r9) (h1 := (q_K0, z10.1, z10.2, q_R0)) [.ref 128] 109 128 9 [] [] rfl (by decide +kernel) (by decide +kernel) rfl (Nat.le_of_ble_eq_true rfl) rfl (by decide) (by decide +kernel) (by decide +kernel) (s_X10_reduces hc21) ?_
    refine q_blk2 (pc2 := 44) (ls2 := [(2, .int r9), (0, .ref 128), (1, .int l1)]) (st2 := [.ref 128]) (h2 := (q_K0, z10.1, z10.2, q_R0)) [(.istore_n 2, 0, 0, 0, 0, 0), (.aload_n 0, 0, 0, 0, 0, 0)] (by decide +kernel) rfl rfl ⟨trivial, trivial, trivial⟩ ?_
    obtain ⟨⟨_, z12⟩, hc22, h⟩ := Option.bind_eq_some_iff.mp h
    dsimp only at h
    refine q_cV0 (idx := 172) (h1 := (q_K0, z12.1, z12.2, q_R0)) [.ref 128] 120 128 9 [] [] rfl (by decide +kernel) (by decide +kernel) rfl (Nat.le_of_ble_eq_true rfl) rfl (by decide) (by decide +kernel) (by decide +kernel) (s_X10_keepWay hc22) ?_
    refine q_blk2 (pc2 := 49) (ls2 := [(2, .int r9), (0, .ref 128), (1, .int l1)]) (st2 := [.int l1, .ref 128]) (h2 := (q_K0, z12.1, z12.2, q_R0)) [(.aload_n 0, 0, 0, 0, 0, 0), (.iload_n 1, 0, 0, 0, 0, 0)] (by decide +kernel) rfl rfl ⟨trivial, trivial, trivial⟩ ?_
    obtain ⟨⟨_, z14⟩, hc23, h⟩ := Option.bind_eq_some_iff.mp h
    dsimp only at h
    refine q_cV0 (idx := 156) (h1 := (q_K0, z14.1, z14.2, q_R0)) [.int l1, .ref 128] 104 128 9 [.int l1] [] rfl (by decide +kernel) (by decide +kernel) rfl (Nat.le_of_ble_eq_true rfl) rfl (by decide) (by decide +kernel) (by decide +kernel) (s_X10_lay hc23) ?_
    refine q_blk2 (pc2 := 53) (ls2 := [(2, .int r9), (0, .ref 128), (1, .int l1)]) (st2 := [.int r9]) (h2 := (q_K0, z14.1, z14.2, q_R0)) [(.iload_n 2, 0, 0, 0, 0, 0)] (by decide +kernel) rfl rfl ⟨trivial, trivial⟩ ?_
    cases h
    exact q_iret .int rfl rfl (by decide +kernel)
  · rw [if_pos c10_1] at h
    refine q_blk2 (pc2 := 15) (ls2 := [(0, .ref 128), (1, .int l1)]) (st2 := [.int 2, .ref 128]) (h2 := (q_K0, z2.1, z2.2, q_R0)) [(.aload_n 0, 0, 0, 0, 0, 0), (.iconst 2, 0, 0, 0, 2, 0)] (by decide +kernel) rfl rfl ⟨trivial, trivial, trivial⟩ ?_
    obtain ⟨⟨r15, z16⟩, hc24, h⟩ := Option.bind_eq_some_iff.mp h
    dsimp only at h
    refine q_cV1 (idx := 152) (v := .int r15) (h1 := (q_K0, z16.1, z16.2, q_R0)) [.int 2, .ref 128] 98 128 9 [.int 2] [] rfl (by decide +kernel) (by decide +kernel) rfl (Nat.le_of_ble_eq_true rfl) rfl (by decide) (by decide +kernel) (by decide +kernel) (s_X10_no hc24) ?_
    cases h
    exact q_iret .int rfl rfl (by decide +kernel)
/-- RootFormsModel.way(I)J -/
def F_X10_way (z : q_Z) (l1 : Int32) : Option (Int64 × q_Z) :=
  (F_X10_in (q_u2 z.1 128 3 0, z.2) (Int32.toInt64 l1) 0 3).bind fun (r1, z2) =>
    if r1 = (0 : Int32) then
      some (0, z2)
    else
      if 0 ≤ Int32.toInt l1 ∧ Int32.toInt l1 < 4 then
        some (z2.2 131 (Int32.toNatClampNeg l1), z2)
      else none
set_option maxRecDepth 100000 in
set_option maxHeartbeats 4000000 in
theorem s_X10_way {z zR : q_Z} {l1 : Int32} {rv : Int64} (h : F_X10_way z l1 = some (rv, zR)) : q_Ca 123 [.ref 128, .int l1] (q_K0, z.1, z.2, q_R0) (some (.long rv)) (q_K0, zR.1, zR.2, q_R0) := by
  refine q_Ca_of (by decide) (Nat.le_of_ble_eq_true rfl) ?_
  show q_Ex none 123 0 [(0, .ref 128), (1, .int l1)] [] (q_K0, z.1, z.2, q_R0) _ _
  unfold F_X10_way at h
  refine q_blk2 (pc2 := 12) (ls2 := [(0, .ref 128), (1, .int l1)]) (st2 := [.long 3, .long 0, .long (Int32.toInt64 l1), .ref 128]) (h2 := (q_K0, q_u2 z.1 128 3 0, z.2, q_R0)) [(.aload_n 0, 0, 0, 0, 0, 0), (.iconst 0, 0, 0, 0, 0, 0), (.putfield 57, 0, 9, 3, 0, 0), (.aload_n 0, 0, 0, 0, 0, 0), (.iload_n 1, 0, 0, 0, 0, 0), (.i2l, 0, 0, 0, 0, 0), (.lconst 0, 0, 0, 0, 0, 0), (.ldc2_w 175, 0, 0, 0, 0, 3)] (by decide +kernel) rfl rfl ⟨trivial, trivial, ⟨rfl, rfl, rfl⟩, trivial, trivial, trivial, trivial, trivial, trivial⟩ ?_
  obtain ⟨⟨r1, z2⟩, hc4, h⟩ := Option.bind_eq_some_iff.mp h
  dsimp only at h
  refine q_cV1 (idx := 138) (v := .int r1) (h1 := (q_K0, z2.1, z2.2, q_R0)) [.long 3, .long 0, .long (Int32.toInt64 l1), .ref 128] 99 128 9 [.long (Int32.toInt64 l1), .long 0, .long 3] [] rfl (by decide +kernel) (by decide +kernel) rfl (Nat.le_of_ble_eq_true rfl) rfl (by decide) (by decide +kernel) (by decide +kernel) (s_X10_in hc4) ?_
  refine q_if_eq (off := 12) (tgt := 27) (by decide +kernel) (by decide) (fun c15_1 => ?_) (fun c15_1 => ?_)
  · rw [if_pos c15_1] at h
    refine q_blk2 (pc2 := 28) (ls2 := [(0, .ref 128), (1, .int l1)]) (st2 := [.long 0]) (h2 := (q_K0, z2.1, z2.2, q_R0)) [(.lconst 0, 0, 0, 0, 0, 0)] (by decide +kernel) rfl rfl ⟨trivial, trivial⟩ ?_
    cases h
    exact q_lret rfl (by decide +kernel)
  · rw [if_neg c15_1] at h
    have b3 : 0 ≤ Int32.toInt l1 ∧ Int32.toInt l1 < 4 := by
      by_cases q : 0 ≤ Int32.toInt l1 ∧ Int32.toInt l1 < 4
      · exact q
      · rw [if_neg q] at h; cases h
    rw [if_pos b3] at h
    refine q_blk2 (pc2 := 24) (ls2 := [(0, .ref 128), (1, .int l1)]) (st2 := [.long (z2.2 131 (Int32.toNatClampNeg l1))]) (h2 := (q_K0, z2.1, z2.2, q_R0)) [(.aload_n 0, 0, 0, 0, 0, 0), (.getfield 16, 0, 9, 8, 0, 0), (.iload_n 1, 0, 0, 0, 0, 0), (.laload, 0, 0, 0, 0, 0)] (by decide +kernel) rfl rfl ⟨trivial, rfl, trivial, ⟨_, rfl, vp_in_iff.mpr b3⟩, trivial⟩ ?_
    refine q_goto (off := 4) (tgt := 28) (by decide +kernel) (by decide) ?_
    cases h
    exact q_lret rfl (by decide +kernel)
def T_X10_ring_100 (z : q_Z) (l3 : Int64) (l5 : Int64) (l7 : Int32) (t0 : Int32) : Option ((Int64 × Int64 × Int32 × Int32 × q_Z) × Nat) :=
  some ((l3, l5, l7, t0, z), 0)
set_option maxRecDepth 100000 in
set_option maxHeartbeats 4000000 in
theorem t_X10_ring_100 {z : q_Z} {l3 : Int64} {l5 : Int64} {l7 : Int32} {t0 : Int32} {s2 : Int64 × Int64 × Int32 × Int32 × q_Z} {t : Nat} {r : Option Value} {h2 : q_H} (h : T_X10_ring_100 z l3 l5 l7 t0 = some (s2, t)) (k0 : t = 0 → q_Ex none 124 64 [(0, .ref 128), (3, .long s2.1), (5, .long s2.2.1), (7, .int s2.2.2.1), (8, .int s2.2.2.2.1)] [] (q_K0, s2.2.2.2.2.1, s2.2.2.2.2.2, q_R0) r h2) (k1 : t = 1 → q_Ex none 124 105 [(0, .ref 128), (3, .long s2.1), (5, .long s2.2.1), (7, .int s2.2.2.1), (8, .int s2.2.2.2.1)] [] (q_K0, s2.2.2.2.2.1, s2.2.2.2.2.2, q_R0) r h2) : q_Ex none 124 100 [(0, .ref 128), (3, .long l3), (5, .long l5), (7, .int l7)] [.int t0] (q_K0, z.1, z.2, q_R0) r h2 := by
  unfold T_X10_ring_100 at h
  refine q_blk2 (pc2 := 102) (ls2 := [(8, .int t0), (0, .ref 128), (3, .long l3), (5, .long l5), (7, .int l7)]) (st2 := []) (h2 := (q_K0, z.1, z.2, q_R0)) [(.istore 8, 0, 0, 0, 0, 0)] (by decide +kernel) rfl rfl ⟨trivial, trivial⟩ ?_
  refine q_goto (off := -38) (tgt := 64) (by decide +kernel) (by decide) ?_
  cases h
  refine q_pick [1, 2, 3, 4, 0] rfl ?_
  exact k0 rfl
def T_X10_ring_95 (z : q_Z) (l3 : Int64) (l5 : Int64) (l7 : Int32) : Option ((Int64 × Int64 × Int32 × Int32 × q_Z) × Nat) :=
  T_X10_ring_100 z l3 l5 l7 1
set_option maxRecDepth 100000 in
set_option maxHeartbeats 4000000 in
theorem t_X10_ring_95 {z : q_Z} {l3 : Int64} {l5 : Int64} {l7 : Int32} {s2 : Int64 × Int64 × Int32 × Int32 × q_Z} {t : Nat} {r : Option Value} {h2 : q_H} (h : T_X10_ring_95 z l3 l5 l7 = some (s2, t)) (k0 : t = 0 → q_Ex none 124 64 [(0, .ref 128), (3, .long s2.1), (5, .long s2.2.1), (7, .int s2.2.2.1), (8, .int s2.2.2.2.1)] [] (q_K0, s2.2.2.2.2.1, s2.2.2.2.2.2, q_R0) r h2) (k1 : t = 1 → q_Ex none 124 105 [(0, .ref 128), (3, .long s2.1), (5, .long s2.2.1), (7, .int s2.2.2.1), (8, .int s2.2.2.2.1)] [] (q_K0, s2.2.2.2.2.1, s2.2.2.2.2.2, q_R0) r h2) : q_Ex none 124 95 [(0, .ref 128), (3, .long l3), (5, .long l5), (7, .int l7)] [] (q_K0, z.1, z.2, q_R0) r h2 := by
  unfold T_X10_ring_95 at h
  refine q_blk2 (pc2 := 96) (ls2 := [(0, .ref 128), (3, .long l3), (5, .long l5), (7, .int l7)]) (st2 := [.int 1]) (h2 := (q_K0, z.1, z.2, q_R0)) [(.iconst 1, 0, 0, 0, 1, 0)] (by decide +kernel) rfl rfl ⟨trivial, trivial⟩ ?_
  refine q_goto (off := 4) (tgt := 100) (by decide +kernel) (by decide) ?_
  refine q_pick [0, 1, 2, 3] rfl ?_
  exact t_X10_ring_100 h k0 k1
def B_X10_ring_64 : Int64 × Int64 × Int32 × Int32 × q_Z → Option ((Int64 × Int64 × Int32 × Int32 × q_Z) × Nat) := fun (l3, l5, l7, l8, z) =>
  if l8 = (0 : Int32) then
    some ((l3, l5, l7, l8, z), 1)
  else
    (F_X10_steps z).bind fun (_, z8) =>
      if (z8.2 128 12) = l3 then
        if (z8.2 128 13) = l5 then
          T_X10_ring_100 z8 l3 l5 (l7 + 1) 0
        else
          T_X10_ring_95 z8 l3 l5 (l7 + 1)
      else
        T_X10_ring_95 z8 l3 l5 (l7 + 1)
set_option maxRecDepth 100000 in
set_option maxHeartbeats 4000000 in
theorem b_X10_ring_64 {s s2 : Int64 × Int64 × Int32 × Int32 × q_Z} {t : Nat} {r : Option Value} {h2 : q_H} (h : B_X10_ring_64 s = some (s2, t)) (k0 : t = 0 → q_Ex none 124 64 [(0, .ref 128), (3, .long s2.1), (5, .long s2.2.1), (7, .int s2.2.2.1), (8, .int s2.2.2.2.1)] [] (q_K0, s2.2.2.2.2.1, s2.2.2.2.2.2, q_R0) r h2) (k1 : t = 1 → q_Ex none 124 105 [(0, .ref 128), (3, .long s2.1), (5, .long s2.2.1), (7, .int s2.2.2.1), (8, .int s2.2.2.2.1)] [] (q_K0, s2.2.2.2.2.1, s2.2.2.2.2.2, q_R0) r h2) : q_Ex none 124 64 [(0, .ref 128), (3, .long s.1), (5, .long s.2.1), (7, .int s.2.2.1), (8, .int s.2.2.2.1)] [] (q_K0, s.2.2.2.2.1, s.2.2.2.2.2, q_R0) r h2 := by
  unfold B_X10_ring_64 at h
  obtain ⟨l3, l5, l7, l8, z⟩ := s
  dsimp only at h
  show q_Ex none 124 64 [(0, .ref 128), (3, .long l3), (5, .long l5), (7, .int l7), (8, .int l8)] [] (q_K0, z.1, z.2, q_R0) r h2
  refine q_blk2 (pc2 := 66) (ls2 := [(0, .ref 128), (3, .long l3), (5, .long l5), (7, .int l7), (8, .int l8)]) (st2 := [.int l8]) (h2 := (q_K0, z.1, z.2, q_R0)) [(.iload 8, 0, 0, 0, 0, 0)] (by decide +kernel) rfl rfl ⟨trivial, trivial⟩ ?_
  refine q_if_eq (off := 39) (tgt := 105) (by decide +kernel) (by decide) (fun c66_1 => ?_) (fun c66_1 => ?_)
  · rw [if_pos c66_1] at h
    cases h
    refine q_pick [0, 1, 2, 3, 4] rfl ?_
    exact k1 rfl
  · rw [if_neg c66_1] at h
    refine q_blk2 (pc2 := 70) (ls2 := [(0, .ref 128), (3, .long l3), (5, .long l5), (7, .int l7), (8, .int l8)]) (st2 := [.ref 128]) (h2 := (q_K0, z.1, z.2, q_R0)) [(.aload_n 0, 0, 0, 0, 0, 0)] (by decide +kernel) rfl rfl ⟨trivial, trivial⟩ ?_
    obtain ⟨⟨_, z8⟩, hc9, h⟩ := Option.bind_eq_some_iff.mp h
    dsimp only at h
    refine q_cV0 (idx := 110) (h1 := (q_K0, z8.1, z8.2, q_R0)) [.ref 128] 108 128 9 [] [] rfl (by decide +kernel) (by decide +kernel) rfl (Nat.le_of_ble_eq_true rfl) rfl (by decide) (by decide +kernel) (by decide +kernel) (s_X10_steps hc9) ?_
    refine q_blk2 (pc2 := 81) (ls2 := [(7, .int (l7 + 1)), (0, .ref 128), (3, .long l3), (5, .long l5), (8, .int l8)]) (st2 := [.long l3, .long (z8.2 128 12)]) (h2 := (q_K0, z8.1, z8.2, q_R0)) [(.iinc 7 1, 0, 0, 0, 1, 0), (.aload_n 0, 0, 0, 0, 0, 0), (.getfield 72, 0, 9, 12, 0, 0), (.lload_n 3, 0, 0, 0, 0, 0)] (by decide +kernel) rfl rfl ⟨trivial, trivial, rfl, trivial, trivial⟩ ?_
    refine q_lc_ne (off := 13) (tgt := 95) (by decide +kernel) (by decide +kernel) (by decide) (fun c81_2 => ?_) (fun c81_2 => ?_)
    · rw [if_neg c81_2] at h
      refine q_pick [1, 2, 3, 0] rfl ?_
      exact t_X10_ring_95 h k0 k1
    · rw [if_pos c81_2] at h
      refine q_blk2 (pc2 := 91) (ls2 := [(7, .int (l7 + 1)), (0, .ref 128), (3, .long l3), (5, .long l5), (8, .int l8)]) (st2 := [.long l5, .long (z8.2 128 13)]) (h2 := (q_K0, z8.1, z8.2, q_R0)) [(.aload_n 0, 0, 0, 0, 0, 0), (.getfield 76, 0, 9, 13, 0, 0), (.lload 5, 0, 0, 0, 0, 0)] (by decide +kernel) rfl rfl ⟨trivial, rfl, trivial, trivial⟩ ?_
      refine q_lc_eq (off := 7) (tgt := 99) (by decide +kernel) (by decide +kernel) (by decide) (fun c91_3 => ?_) (fun c91_3 => ?_)
      · rw [if_pos c91_3] at h
        refine q_blk2 (pc2 := 100) (ls2 := [(7, .int (l7 + 1)), (0, .ref 128), (3, .long l3), (5, .long l5), (8, .int l8)]) (st2 := [.int 0]) (h2 := (q_K0, z8.1, z8.2, q_R0)) [(.iconst 0, 0, 0, 0, 0, 0)] (by decide +kernel) rfl rfl ⟨trivial, trivial⟩ ?_
        refine q_pick [1, 2, 3, 0] rfl ?_
        exact t_X10_ring_100 h k0 k1
      · rw [if_neg c91_3] at h
        refine q_pick [1, 2, 3, 0] rfl ?_
        exact t_X10_ring_95 h k0 k1
/-- RootFormsModel.ring(I)I -/
def F_X10_ring (z : q_Z) (l1 : Int32) : Option (Int32 × q_Z) :=
  (F_X10_isPlace (q_u2 z.1 128 3 0, z.2) l1).bind fun (r1, z2) =>
    if r1 = (0 : Int32) then
      (F_X10_no z2 2).bind fun (r17, z18) =>
        some (r17, z18)
    else
      if (0 : Int32) ≤ (z2.1 128 0) then
        (F_X10_take (q_u2 z2.1 128 2 0, z2.2) l1).bind fun (_, z4) =>
          (F_X10_reduces z4).bind fun (r5, z6) =>
            (q_lp (B_X10_ring_64) q_fu (z6.2 128 12, z6.2 128 13, 0, 1, z6)).bind fun ((w11, w12, w13, w14, z10), tg) =>
              if tg = 0 then
                some (w13, z10)
              else none
      else
        (F_X10_no z2 5).bind fun (r15, z16) =>
          some (r15, z16)
set_option maxRecDepth 100000 in
set_option maxHeartbeats 4000000 in
theorem s_X10_ring {z zR : q_Z} {l1 : Int32} {rv : Int32} (h : F_X10_ring z l1 = some (rv, zR)) : q_Ca 124 [.ref 128, .int l1] (q_K0, z.1, z.2, q_R0) (some (.int rv)) (q_K0, zR.1, zR.2, q_R0) := by
  refine q_Ca_of (by decide) (Nat.le_of_ble_eq_true rfl) ?_
  show q_Ex none 124 0 [(0, .ref 128), (1, .int l1)] [] (q_K0, z.1, z.2, q_R0) _ _
  unfold F_X10_ring at h
  refine q_blk2 (pc2 := 7) (ls2 := [(0, .ref 128), (1, .int l1)]) (st2 := [.int l1, .ref 128]) (h2 := (q_K0, q_u2 z.1 128 3 0, z.2, q_R0)) [(.aload_n 0, 0, 0, 0, 0, 0), (.iconst 0, 0, 0, 0, 0, 0), (.putfield 57, 0, 9, 3, 0, 0), (.aload_n 0, 0, 0, 0, 0, 0), (.iload_n 1, 0, 0, 0, 0, 0)] (by decide +kernel) rfl rfl ⟨trivial, trivial, ⟨rfl, rfl, rfl⟩, trivial, trivial, trivial⟩ ?_
  obtain ⟨⟨r1, z2⟩, hc19, h⟩ := Option.bind_eq_some_iff.mp h
  dsimp only at h
  refine q_cV1 (idx := 162) (v := .int r1) (h1 := (q_K0, z2.1, z2.2, q_R0)) [.int l1, .ref 128] 116 128 9 [.int l1] [] rfl (by decide +kernel) (by decide +kernel) rfl (Nat.le_of_ble_eq_true rfl) rfl (by decide) (by decide +kernel) (by decide +kernel) (s_X10_isPlace hc19) ?_
  refine q_if_ne (off := 9) (tgt := 19) (by decide +kernel) (by decide) (fun c10_1 => ?_) (fun c10_1 => ?_)
  · rw [if_neg c10_1] at h
    refine q_blk2 (pc2 := 23) (ls2 := [(0, .ref 128), (1, .int l1)]) (st2 := [.int (z2.1 128 0)]) (h2 := (q_K0, z2.1, z2.2, q_R0)) [(.aload_n 0, 0, 0, 0, 0, 0), (.getfield 82, 0, 9, 0, 0, 0)] (by decide +kernel) rfl rfl ⟨trivial, rfl, trivial⟩ ?_
    refine q_if_ge (off := 9) (tgt := 32) (by decide +kernel) (by decide) (fun c23_2 => ?_) (fun c23_2 => ?_)
    · rw [if_pos c23_2] at h
      refine q_blk2 (pc2 := 39) (ls2 := [(0, .ref 128), (1, .int l1)]) (st2 := [.int l1, .ref 128]) (h2 := (q_K0, q_u2 z2.1 128 2 0, z2.2, q_R0)) [(.aload_n 0, 0, 0, 0, 0, 0), (.iconst 0, 0, 0, 0, 0, 0), (.putfield 61, 0, 9, 2, 0, 0), (.aload_n 0, 0, 0, 0, 0, 0), (.iload_n 1, 0, 0, 0, 0, 0)] (by decide +kernel) rfl rfl ⟨trivial, trivial, ⟨rfl, rfl, rfl⟩, trivial, trivial, trivial⟩ ?_
      obtain ⟨⟨_, z4⟩, hc20, h⟩ := Option.bind_eq_some_iff.mp h
      dsimp only at h
      refine q_cV0 (idx := 166) (h1 := (q_K0, z4.1, z4.2, q_R0)) [.int l1, .ref 128] 103 128 9 [.int l1] [] rfl (by decide +kernel) (by decide +kernel) rfl (Nat.le_of_ble_eq_true rfl) rfl (by decide) (by decide +kernel) (by decide +kernel) (s_X10_take hc20) ?_
      refine q_blk2 (pc2 := 43) (ls2 := [(0, .ref 128), (1, .int l1)]) (st2 := [.ref 128]) (h2 := (q_K0, z4.1, z4.2, q_R0)) [(.aload_n 0, 0, 0, 0, 0, 0)] (by decide +kernel) rfl rfl ⟨trivial, trivial⟩ ?_
      obtain ⟨⟨r5, z6⟩, hc21, h⟩ := Option.bind_eq_some_iff.mp h
      dsimp only at h
      refine q_cV1 (idx := 130) (v := .int r5) (h1 := (q_K0, z6.1, z6.2, q_R0)) [.ref 128] 109 128 9 [] [] rfl (by decide +kernel) (by decide +kernel) rfl (Nat.le_of_ble_eq_true rfl) rfl (by decide) (by decide +kernel) (by decide +kernel) (s_X10_reduces hc21) ?_
      refine q_blk2 (pc2 := 64) (ls2 := [(8, .int 1), (7, .int 0), (5, .long (z6.2 128 13)), (3, .long (z6.2 128 12)), (2, .int r5), (0, .ref 128), (1, .int l1)]) (st2 := []) (h2 := (q_K0, z6.1, z6.2, q_R0)) [(.istore_n 2, 0, 0, 0, 0, 0), (.aload_n 0, 0, 0, 0, 0, 0), (.getfield 72, 0, 9, 12, 0, 0), (.lstore_n 3, 0, 0, 0, 0, 0), (.aload_n 0, 0, 0, 0, 0, 0), (.getfield 76, 0, 9, 13, 0, 0), (.lstore 5, 0, 0, 0, 0, 0), (.iconst 0, 0, 0, 0, 0, 0), (.istore 7, 0, 0, 0, 0, 0), (.iconst 1, 0, 0, 0, 1, 0), (.istore 8, 0, 0, 0, 0, 0)] (by decide +kernel) rfl rfl ⟨trivial, trivial, rfl, trivial, trivial, rfl, trivial, trivial, trivial, trivial, trivial, trivial⟩ ?_
      obtain ⟨⟨⟨w11, w12, w13, w14, z10⟩, tg23⟩, hl22, h⟩ := Option.bind_eq_some_iff.mp h
      dsimp only at h
      refine q_pick [5, 3, 2, 1, 0] rfl ?_
      refine q_lp_ok (P := fun s => q_Ex _ 124 64 [(0, .ref 128), (3, .long s.1), (5, .long s.2.1), (7, .int s.2.2.1), (8, .int s.2.2.2.1)] [] (q_K0, s.2.2.2.2.1, s.2.2.2.2.2, q_R0) _ _) (X := fun u s => (u = 0 → q_Ex _ 124 105 [(0, .ref 128), (3, .long s.1), (5, .long s.2.1), (7, .int s.2.2.1), (8, .int s.2.2.2.1)] [] (q_K0, s.2.2.2.2.1, s.2.2.2.2.2, q_R0) _ _)) (fun s s2 t hh k0 kx => b_X10_ring_64 hh k0 (fun e => (kx 0 e) rfl)) hl22 ?_
      · intro e_tg23
        subst e_tg23
        rw [if_pos rfl] at h
        show q_Ex _ 124 105 [(0, .ref 128), (3, .long w11), (5, .long w12), (7, .int w13), (8, .int w14)] [] (q_K0, z10.1, z10.2, q_R0) _ _
        refine q_blk2 (pc2 := 107) (ls2 := [(0, .ref 128), (3, .long w11), (5, .long w12), (7, .int w13), (8, .int w14)]) (st2 := [.int w13]) (h2 := (q_K0, z10.1, z10.2, q_R0)) [(.iload 7, 0, 0, 0, 0, 0)] (by decide +kernel) rfl rfl ⟨trivial, trivial⟩ ?_
        cases h
        exact q_iret .int rfl rfl (by decide +kernel)
    · rw [if_neg c23_2] at h
      refine q_blk2 (pc2 := 28) (ls2 := [(0, .ref 128), (1, .int l1)]) (st2 := [.int 5, .ref 128]) (h2 := (q_K0, z2.1, z2.2, q_R0)) [(.aload_n 0, 0, 0, 0, 0, 0), (.iconst 5, 0, 0, 0, 5, 0)] (by decide +kernel) rfl rfl ⟨trivial, trivial, trivial⟩ ?_
      obtain ⟨⟨r15, z16⟩, hc24, h⟩ := Option.bind_eq_some_iff.mp h
      dsimp only at h
      refine q_cV1 (idx := 152) (v := .int r15) (h1 := (q_K0, z16.1, z16.2, q_R0)) [.int 5, .ref 128] 98 128 9 [.int 5] [] rfl (by decide +kernel) (by decide +kernel) rfl (Nat.le_of_ble_eq_true rfl) rfl (by decide) (by decide +kernel) (by decide +kernel) (s_X10_no hc24) ?_
      cases h
      exact q_iret .int rfl rfl (by decide +kernel)
  · rw [if_pos c10_1] at h
    refine q_blk2 (pc2 := 15) (ls2 := [(0, .ref 128), (1, .int l1)]) (st2 := [.int 2, .ref 128]) (h2 := (q_K0, z2.1, z2.2, q_R0)) [(.aload_n 0, 0, 0, 0, 0, 0), (.iconst 2, 0, 0, 0, 2, 0)] (by decide +kernel) rfl rfl ⟨trivial, trivial, trivial⟩ ?_
    obtain ⟨⟨r17, z18⟩, hc25, h⟩ := Option.bind_eq_some_iff.mp h
    dsimp only at h
    refine q_cV1 (idx := 152) (v := .int r17) (h1 := (q_K0, z18.1, z18.2, q_R0)) [.int 2, .ref 128] 98 128 9 [.int 2] [] rfl (by decide +kernel) (by decide +kernel) rfl (Nat.le_of_ble_eq_true rfl) rfl (by decide) (by decide +kernel) (by decide +kernel) (s_X10_no hc25) ?_
    cases h
    exact q_iret .int rfl rfl (by decide +kernel)
/-- RootFormsModel.classOf(I)I -/
def F_X10_classOf (z : q_Z) (l1 : Int32) : Option (Int32 × q_Z) :=
  (F_X10_isPlace (q_u2 z.1 128 3 0, z.2) l1).bind fun (r1, z2) =>
    if r1 = (0 : Int32) then
      (F_X10_no z2 2).bind fun (r7, z8) =>
        some (r7, z8)
    else
      (F_X10_take (q_u2 z2.1 128 2 0, z2.2) l1).bind fun (_, z4) =>
        (F_X10_classHere z4).bind fun (r5, z6) =>
          some (r5, z6)
set_option maxRecDepth 100000 in
set_option maxHeartbeats 4000000 in
theorem s_X10_classOf {z zR : q_Z} {l1 : Int32} {rv : Int32} (h : F_X10_classOf z l1 = some (rv, zR)) : q_Ca 125 [.ref 128, .int l1] (q_K0, z.1, z.2, q_R0) (some (.int rv)) (q_K0, zR.1, zR.2, q_R0) := by
  refine q_Ca_of (by decide) (Nat.le_of_ble_eq_true rfl) ?_
  show q_Ex none 125 0 [(0, .ref 128), (1, .int l1)] [] (q_K0, z.1, z.2, q_R0) _ _
  unfold F_X10_classOf at h
  refine q_blk2 (pc2 := 7) (ls2 := [(0, .ref 128), (1, .int l1)]) (st2 := [.int l1, .ref 128]) (h2 := (q_K0, q_u2 z.1 128 3 0, z.2, q_R0)) [(.aload_n 0, 0, 0, 0, 0, 0), (.iconst 0, 0, 0, 0, 0, 0), (.putfield 57, 0, 9, 3, 0, 0), (.aload_n 0, 0, 0, 0, 0, 0), (.iload_n 1, 0, 0, 0, 0, 0)] (by decide +kernel) rfl rfl ⟨trivial, trivial, ⟨rfl, rfl, rfl⟩, trivial, trivial, trivial⟩ ?_
  obtain ⟨⟨r1, z2⟩, hc9, h⟩ := Option.bind_eq_some_iff.mp h
  dsimp only at h
  refine q_cV1 (idx := 162) (v := .int r1) (h1 := (q_K0, z2.1, z2.2, q_R0)) [.int l1, .ref 128] 116 128 9 [.int l1] [] rfl (by decide +kernel) (by decide +kernel) rfl (Nat.le_of_ble_eq_true rfl) rfl (by decide) (by decide +kernel) (by decide +kernel) (s_X10_isPlace hc9) ?_
  refine q_if_ne (off := 9) (tgt := 19) (by decide +kernel) (by decide) (fun c10_1 => ?_) (fun c10_1 => ?_)
  · rw [if_neg c10_1] at h
    refine q_blk2 (pc2 := 26) (ls2 := [(0, .ref 128), (1, .int l1)]) (st2 := [.int l1, .ref 128]) (h2 := (q_K0, q_u2 z2.1 128 2 0, z2.2, q_R0)) [(.aload_n 0, 0, 0, 0, 0, 0), (.iconst 0, 0, 0, 0, 0, 0), (.putfield 61, 0, 9, 2, 0, 0), (.aload_n 0, 0, 0, 0, 0, 0), (.iload_n 1, 0, 0, 0, 0, 0)] (by decide +kernel) rfl rfl ⟨trivial, trivial, ⟨rfl, rfl, rfl⟩, trivial, trivial, trivial⟩ ?_
    obtain ⟨⟨_, z4⟩, hc10, h⟩ := Option.bind_eq_some_iff.mp h
    dsimp only at h
    refine q_cV0 (idx := 166) (h1 := (q_K0, z4.1, z4.2, q_R0)) [.int l1, .ref 128] 103 128 9 [.int l1] [] rfl (by decide +kernel) (by decide +kernel) rfl (Nat.le_of_ble_eq_true rfl) rfl (by decide) (by decide +kernel) (by decide +kernel) (s_X10_take hc10) ?_
    refine q_blk2 (pc2 := 30) (ls2 := [(0, .ref 128), (1, .int l1)]) (st2 := [.ref 128]) (h2 := (q_K0, z4.1, z4.2, q_R0)) [(.aload_n 0, 0, 0, 0, 0, 0)] (by decide +kernel) rfl rfl ⟨trivial, trivial⟩ ?_
    obtain ⟨⟨r5, z6⟩, hc11, h⟩ := Option.bind_eq_some_iff.mp h
    dsimp only at h
    refine q_cV1 (idx := 177) (v := .int r5) (h1 := (q_K0, z6.1, z6.2, q_R0)) [.ref 128] 112 128 9 [] [] rfl (by decide +kernel) (by decide +kernel) rfl (Nat.le_of_ble_eq_true rfl) rfl (by decide) (by decide +kernel) (by decide +kernel) (s_X10_classHere hc11) ?_
    cases h
    exact q_iret .int rfl rfl (by decide +kernel)
  · rw [if_pos c10_1] at h
    refine q_blk2 (pc2 := 15) (ls2 := [(0, .ref 128), (1, .int l1)]) (st2 := [.int 2, .ref 128]) (h2 := (q_K0, z2.1, z2.2, q_R0)) [(.aload_n 0, 0, 0, 0, 0, 0), (.iconst 2, 0, 0, 0, 2, 0)] (by decide +kernel) rfl rfl ⟨trivial, trivial, trivial⟩ ?_
    obtain ⟨⟨r7, z8⟩, hc12, h⟩ := Option.bind_eq_some_iff.mp h
    dsimp only at h
    refine q_cV1 (idx := 152) (v := .int r7) (h1 := (q_K0, z8.1, z8.2, q_R0)) [.int 2, .ref 128] 98 128 9 [.int 2] [] rfl (by decide +kernel) (by decide +kernel) rfl (Nat.le_of_ble_eq_true rfl) rfl (by decide) (by decide +kernel) (by decide +kernel) (s_X10_no hc12) ?_
    cases h
    exact q_iret .int rfl rfl (by decide +kernel)
