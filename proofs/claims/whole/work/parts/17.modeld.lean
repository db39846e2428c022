/-! pure functions of the methods, and that the methods do what they say (written by wip/whole/dec.py) -/
def B_X10_findRings_2 : Int32 × q_Z → Option ((Int32 × q_Z) × Nat) := fun (l1, z) =>
  if (z.1 128 23) ≤ l1 then
    some ((l1, z), 1)
  else
    (F_X10_orderOf z l1).bind fun (r1, z2) =>
      if 0 ≤ Int32.toInt l1 ∧ Int32.toInt l1 < 1000 then
        some ((l1 + 1, (q_u2 z2.1 140 (Int32.toNatClampNeg l1) r1, z2.2)), 0)
      else none
set_option maxRecDepth 100000 in
set_option maxHeartbeats 4000000 in
theorem b_X10_findRings_2 {s s2 : Int32 × q_Z} {t : Nat} {r : Option Value} {h2 : q_H} (h : B_X10_findRings_2 s = some (s2, t)) (k0 : t = 0 → q_Ex none 138 2 [(0, .ref 128), (1, .int s2.1)] [] (q_K0, s2.2.1, s2.2.2, q_R0) r h2) (k1 : t = 1 → q_Ex none 138 27 [(0, .ref 128), (1, .int s2.1)] [] (q_K0, s2.2.1, s2.2.2, q_R0) r h2) : q_Ex none 138 2 [(0, .ref 128), (1, .int s.1)] [] (q_K0, s.2.1, s.2.2, q_R0) r h2 := by
  unfold B_X10_findRings_2 at h
  obtain ⟨l1, z⟩ := s
  dsimp only at h
  show q_Ex none 138 2 [(0, .ref 128), (1, .int l1)] [] (q_K0, z.1, z.2, q_R0) r h2
  refine q_blk2 (pc2 := 7) (ls2 := [(0, .ref 128), (1, .int l1)]) (st2 := [.int (z.1 128 23), .int l1]) (h2 := (q_K0, z.1, z.2, q_R0)) [(.iload_n 1, 0, 0, 0, 0, 0), (.aload_n 0, 0, 0, 0, 0, 0), (.getfield 123, 0, 9, 23, 0, 0)] (by decide +kernel) rfl rfl ⟨trivial, trivial, rfl, trivial⟩ ?_
  refine q_ic_ge (off := 20) (tgt := 27) (by decide +kernel) (by decide) (fun c7_1 => ?_) (fun c7_1 => ?_)
  · rw [if_pos c7_1] at h
    cases h
    refine q_pick [0, 1] rfl ?_
    exact k1 rfl
  · rw [if_neg c7_1] at h
    refine q_blk2 (pc2 := 17) (ls2 := [(0, .ref 128), (1, .int l1)]) (st2 := [.int l1, .ref 128, .int l1, .ref 140]) (h2 := (q_K0, z.1, z.2, q_R0)) [(.aload_n 0, 0, 0, 0, 0, 0), (.getfield 44, 0, 9, 30, 0, 0), (.iload_n 1, 0, 0, 0, 0, 0), (.aload_n 0, 0, 0, 0, 0, 0), (.iload_n 1, 0, 0, 0, 0, 0)] (by decide +kernel) rfl rfl ⟨trivial, rfl, trivial, trivial, trivial, trivial⟩ ?_
    obtain ⟨⟨r1, z2⟩, hc4, h⟩ := Option.bind_eq_some_iff.mp h
    dsimp only at h
    refine q_cV1 (idx := 203) (v := .int r1) (h1 := (q_K0, z2.1, z2.2, q_R0)) [.int l1, .ref 128, .int l1, .ref 140] 136 128 9 [.int l1] [.int l1, .ref 140] rfl (by decide +kernel) (by decide +kernel) rfl (Nat.le_of_ble_eq_true rfl) rfl (by decide) (by decide +kernel) (by decide +kernel) (s_X10_orderOf hc4) ?_
    have b3 : 0 ≤ Int32.toInt l1 ∧ Int32.toInt l1 < 1000 := by
      by_cases q : 0 ≤ Int32.toInt l1 ∧ Int32.toInt l1 < 1000
      · exact q
      · rw [if_neg q] at h; cases h
    rw [if_pos b3] at h
    refine q_blk2 (pc2 := 24) (ls2 := [(1, .int (l1 + 1)), (0, .ref 128)]) (st2 := []) (h2 := (q_K0, q_u2 z2.1 140 (Int32.toNatClampNeg l1) r1, z2.2, q_R0)) [(.iastore, 0, 0, 0, 0, 0), (.iinc 1 1, 0, 0, 0, 1, 0)] (by decide +kernel) rfl rfl ⟨⟨_, rfl, vp_in_iff.mpr b3⟩, trivial, trivial⟩ ?_
    refine q_goto (off := -22) (tgt := 2) (by decide +kernel) (by decide) ?_
    cases h
    refine q_pick [1, 0] rfl ?_
    exact k0 rfl
def B_X10_findRings_34 : Int32 × q_Z → Option ((Int32 × q_Z) × Nat) := fun (l1, z) =>
  if (20 : Int32) ≤ l1 then
    some ((l1, z), 1)
  else
    if 0 ≤ Int32.toInt l1 ∧ Int32.toInt l1 < 20 then
      some ((l1 + 1, (q_u2 z.1 139 (Int32.toNatClampNeg l1) 1, z.2)), 0)
    else none
set_option maxRecDepth 100000 in
set_option maxHeartbeats 4000000 in
theorem b_X10_findRings_34 {s s2 : Int32 × q_Z} {t : Nat} {r : Option Value} {h2 : q_H} (h : B_X10_findRings_34 s = some (s2, t)) (k0 : t = 0 → q_Ex none 138 34 [(0, .ref 128), (1, .int s2.1)] [] (q_K0, s2.2.1, s2.2.2, q_R0) r h2) (k1 : t = 1 → q_Ex none 138 53 [(0, .ref 128), (1, .int s2.1)] [] (q_K0, s2.2.1, s2.2.2, q_R0) r h2) : q_Ex none 138 34 [(0, .ref 128), (1, .int s.1)] [] (q_K0, s.2.1, s.2.2, q_R0) r h2 := by
  unfold B_X10_findRings_34 at h
  obtain ⟨l1, z⟩ := s
  dsimp only at h
  show q_Ex none 138 34 [(0, .ref 128), (1, .int l1)] [] (q_K0, z.1, z.2, q_R0) r h2
  refine q_blk2 (pc2 := 37) (ls2 := [(0, .ref 128), (1, .int l1)]) (st2 := [.int 20, .int l1]) (h2 := (q_K0, z.1, z.2, q_R0)) [(.iload_n 1, 0, 0, 0, 0, 0), (.bipush 20, 0, 0, 0, 20, 0)] (by decide +kernel) rfl rfl ⟨trivial, trivial, trivial⟩ ?_
  refine q_ic_ge (off := 16) (tgt := 53) (by decide +kernel) (by decide) (fun c37_1 => ?_) (fun c37_1 => ?_)
  · rw [if_pos c37_1] at h
    cases h
    refine q_pick [0, 1] rfl ?_
    exact k1 rfl
  · rw [if_neg c37_1] at h
    have b7 : 0 ≤ Int32.toInt l1 ∧ Int32.toInt l1 < 20 := by
      by_cases q : 0 ≤ Int32.toInt l1 ∧ Int32.toInt l1 < 20
      · exact q
      · rw [if_neg q] at h; cases h
    rw [if_pos b7] at h
    refine q_blk2 (pc2 := 50) (ls2 := [(1, .int (l1 + 1)), (0, .ref 128)]) (st2 := []) (h2 := (q_K0, q_u2 z.1 139 (Int32.toNatClampNeg l1) 1, z.2, q_R0)) [(.aload_n 0, 0, 0, 0, 0, 0), (.getfield 41, 0, 9, 29, 0, 0), (.iload_n 1, 0, 0, 0, 0, 0), (.iconst 1, 0, 0, 0, 1, 0), (.iastore, 0, 0, 0, 0, 0), (.iinc 1 1, 0, 0, 0, 1, 0)] (by decide +kernel) rfl rfl ⟨trivial, rfl, trivial, trivial, ⟨_, rfl, vp_in_iff.mpr b7⟩, trivial, trivial⟩ ?_
    refine q_goto (off := -16) (tgt := 34) (by decide +kernel) (by decide) ?_
    cases h
    refine q_pick [1, 0] rfl ?_
    exact k0 rfl
def T_X10_findRings_123 (z : q_Z) (l1 : Int32) (l2 : Int32) (l3 : Int32) (l4 : Int32) (l6 : Int32) (t0 : Int32) (t1 : Int32) : Option ((Int32 × Int32 × Int32 × Int32 × Int32 × Int32 × q_Z) × Nat) :=
  some ((l1, l2, l3, l4, t1 + t0, l6 + 1, z), 0)
set_option maxRecDepth 100000 in
set_option maxHeartbeats 4000000 in
theorem t_X10_findRings_123 {z : q_Z} {l1 : Int32} {l2 : Int32} {l3 : Int32} {l4 : Int32} {l6 : Int32} {t0 : Int32} {t1 : Int32} {s2 : Int32 × Int32 × Int32 × Int32 × Int32 × Int32 × q_Z} {t : Nat} {r : Option Value} {h2 : q_H} (h : T_X10_findRings_123 z l1 l2 l3 l4 l6 t0 t1 = some (s2, t)) (k0 : t = 0 → q_Ex none 138 95 [(0, .ref 128), (1, .int s2.1), (2, .int s2.2.1), (3, .int s2.2.2.1), (4, .int s2.2.2.2.1), (5, .int s2.2.2.2.2.1), (6, .int s2.2.2.2.2.2.1)] [] (q_K0, s2.2.2.2.2.2.2.1, s2.2.2.2.2.2.2.2, q_R0) r h2) (k1 : t = 1 → q_Ex none 138 132 [(0, .ref 128), (1, .int s2.1), (2, .int s2.2.1), (3, .int s2.2.2.1), (4, .int s2.2.2.2.1), (5, .int s2.2.2.2.2.1), (6, .int s2.2.2.2.2.2.1)] [] (q_K0, s2.2.2.2.2.2.2.1, s2.2.2.2.2.2.2.2, q_R0) r h2) : q_Ex none 138 123 [(0, .ref 128), (1, .int l1), (2, .int l2), (3, .int l3), (4, .int l4), (6, .int l6)] [.int t0, .int t1] (q_K0, z.1, z.2, q_R0) r h2 := by
  unfold T_X10_findRings_123 at h
  refine q_blk2 (pc2 := 129) (ls2 := [(6, .int (l6 + 1)), (5, .int (t1 + t0)), (0, .ref 128), (1, .int l1), (2, .int l2), (3, .int l3), (4, .int l4)]) (st2 := []) (h2 := (q_K0, z.1, z.2, q_R0)) [(.iadd, 0, 0, 0, 0, 0), (.istore 5, 0, 0, 0, 0, 0), (.iinc 6 1, 0, 0, 0, 1, 0)] (by decide +kernel) rfl rfl ⟨trivial, trivial, trivial, trivial⟩ ?_
  refine q_goto (off := -34) (tgt := 95) (by decide +kernel) (by decide) ?_
  cases h
  refine q_pick [2, 3, 4, 5, 6, 1, 0] rfl ?_
  exact k0 rfl
def B_X10_findRings_95 : Int32 × Int32 × Int32 × Int32 × Int32 × Int32 × q_Z → Option ((Int32 × Int32 × Int32 × Int32 × Int32 × Int32 × q_Z) × Nat) := fun (l1, l2, l3, l4, l5, l6, z) =>
  if (z.1 128 23) ≤ l6 then
    some ((l1, l2, l3, l4, l5, l6, z), 1)
  else
    if 0 ≤ Int32.toInt l6 ∧ Int32.toInt l6 < 1000 then
      if ¬ (z.1 140 (Int32.toNatClampNeg l6)) = (0 : Int32) then
        if (l3 - l3 / (z.1 140 (Int32.toNatClampNeg l6)) * (z.1 140 (Int32.toNatClampNeg l6))) = (0 : Int32) then
          T_X10_findRings_123 z l1 l2 l3 l4 l6 1 l5
        else
          T_X10_findRings_123 z l1 l2 l3 l4 l6 0 l5
      else none
    else none
set_option maxRecDepth 100000 in
set_option maxHeartbeats 4000000 in
theorem b_X10_findRings_95 {s s2 : Int32 × Int32 × Int32 × Int32 × Int32 × Int32 × q_Z} {t : Nat} {r : Option Value} {h2 : q_H} (h : B_X10_findRings_95 s = some (s2, t)) (k0 : t = 0 → q_Ex none 138 95 [(0, .ref 128), (1, .int s2.1), (2, .int s2.2.1), (3, .int s2.2.2.1), (4, .int s2.2.2.2.1), (5, .int s2.2.2.2.2.1), (6, .int s2.2.2.2.2.2.1)] [] (q_K0, s2.2.2.2.2.2.2.1, s2.2.2.2.2.2.2.2, q_R0) r h2) (k1 : t = 1 → q_Ex none 138 132 [(0, .ref 128), (1, .int s2.1), (2, .int s2.2.1), (3, .int s2.2.2.1), (4, .int s2.2.2.2.1), (5, .int s2.2.2.2.2.1), (6, .int s2.2.2.2.2.2.1)] [] (q_K0, s2.2.2.2.2.2.2.1, s2.2.2.2.2.2.2.2, q_R0) r h2) : q_Ex none 138 95 [(0, .ref 128), (1, .int s.1), (2, .int s.2.1), (3, .int s.2.2.1), (4, .int s.2.2.2.1), (5, .int s.2.2.2.2.1), (6, .int s.2.2.2.2.2.1)] [] (q_K0, s.2.2.2.2.2.2.1, s.2.2.2.2.2.2.2, q_R0) r h2 := by
  unfold B_X10_findRings_95 at h
  obtain ⟨l1, l2, l3, l4, l5, l6, z⟩ := s
  dsimp only at h
  show q_Ex none 138 95 [(0, .ref 128), (1, .int l1), (2, .int l2), (3, .int l3), (4, .int l4), (5, .int l5), (6, .int l6)] [] (q_K0, z.1, z.2, q_R0) r h2
  refine q_blk2 (pc2 := 101) (ls2 := [(0, .ref 128), (1, .int l1), (2, .int l2), (3, .int l3), (4, .int l4), (5, .int l5), (6, .int l6)]) (st2 := [.int (z.1 128 23), .int l6]) (h2 := (q_K0, z.1, z.2, q_R0)) [(.iload 6, 0, 0, 0, 0, 0), (.aload_n 0, 0, 0, 0, 0, 0), (.getfield 123, 0, 9, 23, 0, 0)] (by decide +kernel) rfl rfl ⟨trivial, trivial, rfl, trivial⟩ ?_
  refine q_ic_ge (off := 31) (tgt := 132) (by decide +kernel) (by decide) (fun c101_1 => ?_) (fun c101_1 => ?_)
  · rw [if_pos c101_1] at h
    cases h
    refine q_pick [0, 1, 2, 3, 4, 5, 6] rfl ?_
    exact k1 rfl
  · rw [if_neg c101_1] at h
    have b12 : 0 ≤ Int32.toInt l6 ∧ Int32.toInt l6 < 1000 := by
      by_cases q : 0 ≤ Int32.toInt l6 ∧ Int32.toInt l6 < 1000
      · exact q
      · rw [if_neg q] at h; cases h
    rw [if_pos b12] at h
    have b13 : ¬ (z.1 140 (Int32.toNatClampNeg l6)) = (0 : Int32) := by
      by_cases q : ¬ (z.1 140 (Int32.toNatClampNeg l6)) = (0 : Int32)
      · exact q
      · rw [if_neg q] at h; cases h
    rw [if_pos b13] at h
    refine q_blk2 (pc2 := 115) (ls2 := [(0, .ref 128), (1, .int l1), (2, .int l2), (3, .int l3), (4, .int l4), (5, .int l5), (6, .int l6)]) (st2 := [.int (l3 - l3 / (z.1 140 (Int32.toNatClampNeg l6)) * (z.1 140 (Int32.toNatClampNeg l6))), .int l5]) (h2 := (q_K0, z.1, z.2, q_R0)) [(.iload 5, 0, 0, 0, 0, 0), (.iload_n 3, 0, 0, 0, 0, 0), (.aload_n 0, 0, 0, 0, 0, 0), (.getfield 44, 0, 9, 30, 0, 0), (.iload 6, 0, 0, 0, 0, 0), (.iaload, 0, 0, 0, 0, 0), (.irem, 0, 0, 0, 0, 0)] (by decide +kernel) rfl rfl ⟨trivial, trivial, trivial, rfl, trivial, ⟨_, rfl, vp_in_iff.mpr b12⟩, b13, trivial⟩ ?_
    refine q_if_ne (off := 7) (tgt := 122) (by decide +kernel) (by decide) (fun c115_2 => ?_) (fun c115_2 => ?_)
    · rw [if_neg c115_2] at h
      refine q_blk2 (pc2 := 123) (ls2 := [(0, .ref 128), (1, .int l1), (2, .int l2), (3, .int l3), (4, .int l4), (5, .int l5), (6, .int l6)]) (st2 := [.int 0, .int l5]) (h2 := (q_K0, z.1, z.2, q_R0)) [(.iconst 0, 0, 0, 0, 0, 0)] (by decide +kernel) rfl rfl ⟨trivial, trivial⟩ ?_
      refine q_pick [0, 1, 2, 3, 4, 6] rfl ?_
      exact t_X10_findRings_123 h k0 k1
    · rw [if_pos c115_2] at h
      refine q_blk2 (pc2 := 119) (ls2 := [(0, .ref 128), (1, .int l1), (2, .int l2), (3, .int l3), (4, .int l4), (5, .int l5), (6, .int l6)]) (st2 := [.int 1, .int l5]) (h2 := (q_K0, z.1, z.2, q_R0)) [(.iconst 1, 0, 0, 0, 1, 0)] (by decide +kernel) rfl rfl ⟨trivial, trivial⟩ ?_
      refine q_goto (off := 4) (tgt := 123) (by decide +kernel) (by decide) ?_
      refine q_pick [0, 1, 2, 3, 4, 6] rfl ?_
      exact t_X10_findRings_123 h k0 k1
def B_X10_findRings_142 : Int32 × Int32 × Int32 × Int32 × Int32 × Int32 × q_Z → Option ((Int32 × Int32 × Int32 × Int32 × Int32 × Int32 × q_Z) × Nat) := fun (l1, l2, l3, l5, l6, l7, z) =>
  if l7 ≤ (1 : Int32) then
    some ((l1, l2, l3, l5, l6, l7, z), 1)
  else
    if ¬ l2 = (0 : Int32) then
      some ((l1, l2, l3, l5, l6 + 1, l7 / l2, z), 0)
    else none
set_option maxRecDepth 100000 in
set_option maxHeartbeats 4000000 in
theorem b_X10_findRings_142 {s s2 : Int32 × Int32 × Int32 × Int32 × Int32 × Int32 × q_Z} {t : Nat} {r : Option Value} {h2 : q_H} (h : B_X10_findRings_142 s = some (s2, t)) (k0 : t = 0 → q_Ex none 138 142 [(0, .ref 128), (1, .int s2.1), (2, .int s2.2.1), (3, .int s2.2.2.1), (5, .int s2.2.2.2.1), (6, .int s2.2.2.2.2.1), (7, .int s2.2.2.2.2.2.1)] [] (q_K0, s2.2.2.2.2.2.2.1, s2.2.2.2.2.2.2.2, q_R0) r h2) (k1 : t = 1 → q_Ex none 138 160 [(0, .ref 128), (1, .int s2.1), (2, .int s2.2.1), (3, .int s2.2.2.1), (5, .int s2.2.2.2.1), (6, .int s2.2.2.2.2.1), (7, .int s2.2.2.2.2.2.1)] [] (q_K0, s2.2.2.2.2.2.2.1, s2.2.2.2.2.2.2.2, q_R0) r h2) : q_Ex none 138 142 [(0, .ref 128), (1, .int s.1), (2, .int s.2.1), (3, .int s.2.2.1), (5, .int s.2.2.2.1), (6, .int s.2.2.2.2.1), (7, .int s.2.2.2.2.2.1)] [] (q_K0, s.2.2.2.2.2.2.1, s.2.2.2.2.2.2.2, q_R0) r h2 := by
  unfold B_X10_findRings_142 at h
  obtain ⟨l1, l2, l3, l5, l6, l7, z⟩ := s
  dsimp only at h
  show q_Ex none 138 142 [(0, .ref 128), (1, .int l1), (2, .int l2), (3, .int l3), (5, .int l5), (6, .int l6), (7, .int l7)] [] (q_K0, z.1, z.2, q_R0) r h2
  refine q_blk2 (pc2 := 145) (ls2 := [(0, .ref 128), (1, .int l1), (2, .int l2), (3, .int l3), (5, .int l5), (6, .int l6), (7, .int l7)]) (st2 := [.int 1, .int l7]) (h2 := (q_K0, z.1, z.2, q_R0)) [(.iload 7, 0, 0, 0, 0, 0), (.iconst 1, 0, 0, 0, 1, 0)] (by decide +kernel) rfl rfl ⟨trivial, trivial, trivial⟩ ?_
  refine q_ic_le (off := 15) (tgt := 160) (by decide +kernel) (by decide) (fun c145_1 => ?_) (fun c145_1 => ?_)
  · rw [if_pos c145_1] at h
    cases h
    refine q_pick [0, 1, 2, 3, 4, 5, 6] rfl ?_
    exact k1 rfl
  · rw [if_neg c145_1] at h
    have b22 : ¬ l2 = (0 : Int32) := by
      by_cases q : ¬ l2 = (0 : Int32)
      · exact q
      · rw [if_neg q] at h; cases h
    rw [if_pos b22] at h
    refine q_blk2 (pc2 := 157) (ls2 := [(7, .int (l7 / l2)), (6, .int (l6 + 1)), (0, .ref 128), (1, .int l1), (2, .int l2), (3, .int l3), (5, .int l5)]) (st2 := []) (h2 := (q_K0, z.1, z.2, q_R0)) [(.iinc 6 1, 0, 0, 0, 1, 0), (.iload 7, 0, 0, 0, 0, 0), (.iload_n 2, 0, 0, 0, 0, 0), (.idiv, 0, 0, 0, 0, 0), (.istore 7, 0, 0, 0, 0, 0)] (by decide +kernel) rfl rfl ⟨trivial, trivial, trivial, b22, trivial, trivial⟩ ?_
    refine q_goto (off := -15) (tgt := 142) (by decide +kernel) (by decide) ?_
    cases h
    refine q_pick [2, 3, 4, 5, 6, 1, 0] rfl ?_
    exact k0 rfl
def B_X10_findRings_163 : Int32 × Int32 × Int32 × Int32 × Int32 × Int32 × q_Z → Option ((Int32 × Int32 × Int32 × Int32 × Int32 × Int32 × q_Z) × Nat) := fun (l1, l2, l3, l5, l6, l7, z) =>
  if l6 ≤ l7 then
    some ((l1, l2, l3, l5, l6, l7, z), 1)
  else
    if 0 ≤ Int32.toInt l7 ∧ Int32.toInt l7 < 20 then
      if ¬ l2 = (0 : Int32) then
        some ((l1 / l2, l2, l3, l5, l6, l7 + 1, (q_u2 z.1 139 (Int32.toNatClampNeg l7) ((z.1 139 (Int32.toNatClampNeg l7)) * l2), z.2)), 0)
      else none
    else none
set_option maxRecDepth 100000 in
set_option maxHeartbeats 4000000 in
theorem b_X10_findRings_163 {s s2 : Int32 × Int32 × Int32 × Int32 × Int32 × Int32 × q_Z} {t : Nat} {r : Option Value} {h2 : q_H} (h : B_X10_findRings_163 s = some (s2, t)) (k0 : t = 0 → q_Ex none 138 163 [(0, .ref 128), (1, .int s2.1), (2, .int s2.2.1), (3, .int s2.2.2.1), (5, .int s2.2.2.2.1), (6, .int s2.2.2.2.2.1), (7, .int s2.2.2.2.2.2.1)] [] (q_K0, s2.2.2.2.2.2.2.1, s2.2.2.2.2.2.2.2, q_R0) r h2) (k1 : t = 1 → q_Ex none 138 191 [(0, .ref 128), (1, .int s2.1), (2, .int s2.2.1), (3, .int s2.2.2.1), (5, .int s2.2.2.2.1), (6, .int s2.2.2.2.2.1), (7, .int s2.2.2.2.2.2.1)] [] (q_K0, s2.2.2.2.2.2.2.1, s2.2.2.2.2.2.2.2, q_R0) r h2) : q_Ex none 138 163 [(0, .ref 128), (1, .int s.1), (2, .int s.2.1), (3, .int s.2.2.1), (5, .int s.2.2.2.1), (6, .int s.2.2.2.2.1), (7, .int s.2.2.2.2.2.1)] [] (q_K0, s.2.2.2.2.2.2.1, s.2.2.2.2.2.2.2, q_R0) r h2 := by
  unfold B_X10_findRings_163 at h
  obtain ⟨l1, l2, l3, l5, l6, l7, z⟩ := s
  dsimp only at h
  show q_Ex none 138 163 [(0, .ref 128), (1, .int l1), (2, .int l2), (3, .int l3), (5, .int l5), (6, .int l6), (7, .int l7)] [] (q_K0, z.1, z.2, q_R0) r h2
  refine q_blk2 (pc2 := 167) (ls2 := [(0, .ref 128), (1, .int l1), (2, .int l2), (3, .int l3), (5, .int l5), (6, .int l6), (7, .int l7)]) (st2 := [.int l6, .int l7]) (h2 := (q_K0, z.1, z.2, q_R0)) [(.iload 7, 0, 0, 0, 0, 0), (.iload 6, 0, 0, 0, 0, 0)] (by decide +kernel) rfl rfl ⟨trivial, trivial, trivial⟩ ?_
  refine q_ic_ge (off := 24) (tgt := 191) (by decide +kernel) (by decide) (fun c167_1 => ?_) (fun c167_1 => ?_)
  · rw [if_pos c167_1] at h
    cases h
    refine q_pick [0, 1, 2, 3, 4, 5, 6] rfl ?_
    exact k1 rfl
  · rw [if_neg c167_1] at h
    have b30 : 0 ≤ Int32.toInt l7 ∧ Int32.toInt l7 < 20 := by
      by_cases q : 0 ≤ Int32.toInt l7 ∧ Int32.toInt l7 < 20
      · exact q
      · rw [if_neg q] at h; cases h
    rw [if_pos b30] at h
    have b31 : ¬ l2 = (0 : Int32) := by
      by_cases q : ¬ l2 = (0 : Int32)
      · exact q
      · rw [if_neg q] at h; cases h
    rw [if_pos b31] at h
    refine q_blk2 (pc2 := 188) (ls2 := [(7, .int (l7 + 1)), (1, .int (l1 / l2)), (0, .ref 128), (2, .int l2), (3, .int l3), (5, .int l5), (6, .int l6)]) (st2 := []) (h2 := (q_K0, q_u2 z.1 139 (Int32.toNatClampNeg l7) ((z.1 139 (Int32.toNatClampNeg l7)) * l2), z.2, q_R0)) [(.aload_n 0, 0, 0, 0, 0, 0), (.getfield 41, 0, 9, 29, 0, 0), (.iload 7, 0, 0, 0, 0, 0), (.dup2, 0, 0, 0, 0, 0), (.iaload, 0, 0, 0, 0, 0), (.iload_n 2, 0, 0, 0, 0, 0), (.imul, 0, 0, 0, 0, 0), (.iastore, 0, 0, 0, 0, 0), (.iload_n 1, 0, 0, 0, 0, 0), (.iload_n 2, 0, 0, 0, 0, 0), (.idiv, 0, 0, 0, 0, 0), (.istore_n 1, 0, 0, 0, 0, 0), (.iinc 7 1, 0, 0, 0, 1, 0)] (by decide +kernel) rfl rfl ⟨trivial, rfl, trivial, trivial, ⟨_, rfl, vp_in_iff.mpr b30⟩, trivial, trivial, ⟨_, rfl, vp_in_iff.mpr b30⟩, trivial, trivial, b31, trivial, trivial, trivial⟩ ?_
    refine q_goto (off := -25) (tgt := 163) (by decide +kernel) (by decide) ?_
    cases h
    refine q_pick [2, 1, 3, 4, 5, 6, 0] rfl ?_
    exact k0 rfl
def T_X10_findRings_210 (z : q_Z) (l1 : Int32) (l2 : Int32) (l3 : Int32) (l5 : Int32) (t0 : Int32) : Option ((Int32 × Int32 × Int32 × Int32 × q_Z) × Nat) :=
  some ((l1, l2, l3, l5, (q_u2 z.1 128 31 t0, z.2)), 0)
set_option maxRecDepth 100000 in
set_option maxHeartbeats 4000000 in
theorem t_X10_findRings_210 {z : q_Z} {l1 : Int32} {l2 : Int32} {l3 : Int32} {l5 : Int32} {t0 : Int32} {s2 : Int32 × Int32 × Int32 × Int32 × q_Z} {t : Nat} {r : Option Value} {h2 : q_H} (h : T_X10_findRings_210 z l1 l2 l3 l5 t0 = some (s2, t)) (k0 : t = 0 → q_Ex none 138 79 [(0, .ref 128), (1, .int s2.1), (2, .int s2.2.1), (3, .int s2.2.2.1), (4, .int s2.2.2.2.1)] [] (q_K0, s2.2.2.2.2.1, s2.2.2.2.2.2, q_R0) r h2) (k1 : t = 1 → q_Ex none 138 220 [(0, .ref 128), (1, .int s2.1), (2, .int s2.2.1), (3, .int s2.2.2.1), (4, .int s2.2.2.2.1)] [] (q_K0, s2.2.2.2.2.1, s2.2.2.2.2.2, q_R0) r h2) : q_Ex none 138 210 [(0, .ref 128), (1, .int l1), (2, .int l2), (3, .int l3), (5, .int l5)] [.int t0, .ref 128] (q_K0, z.1, z.2, q_R0) r h2 := by
  unfold T_X10_findRings_210 at h
  refine q_blk2 (pc2 := 217) (ls2 := [(4, .int l5), (0, .ref 128), (1, .int l1), (2, .int l2), (3, .int l3), (5, .int l5)]) (st2 := []) (h2 := (q_K0, q_u2 z.1 128 31 t0, z.2, q_R0)) [(.putfield 206, 0, 9, 31, 0, 0), (.iload 5, 0, 0, 0, 0, 0), (.istore 4, 0, 0, 0, 0, 0)] (by decide +kernel) rfl rfl ⟨⟨rfl, rfl, rfl⟩, trivial, trivial, trivial⟩ ?_
  refine q_goto (off := -138) (tgt := 79) (by decide +kernel) (by decide) ?_
  cases h
  refine q_pick [1, 2, 3, 4, 0] rfl ?_
  exact k0 rfl
def B_X10_findRings_79 : Int32 × Int32 × Int32 × Int32 × q_Z → Option ((Int32 × Int32 × Int32 × Int32 × q_Z) × Nat) := fun (l1, l2, l3, l4, z) =>
  if ¬ l2 = (0 : Int32) then
    if (l1 - l1 / l2 * l2) = (0 : Int32) then
      (q_lp (B_X10_findRings_95) q_fu (l1, l2, l3 * l2, l4, 0, 0, z)).bind fun ((w15, w16, w17, w18, w19, w20, z14), tg) =>
        if tg = 0 then
          if ¬ w18 = (0 : Int32) then
            (q_lp (B_X10_findRings_142) q_fu (w15, w16, w17, w19, 0, w19 / w18, z14)).bind fun ((w24, w25, w26, w27, w28, w29, z23), tg) =>
              if tg = 0 then
                (q_lp (B_X10_findRings_163) q_fu (w24, w25, w26, w27, w28, 0, z23)).bind fun ((w33, w34, w35, w36, w37, w38, z32), tg) =>
                  if tg = 0 then
                    if w37 ≤ (z32.1 128 31) then
                      T_X10_findRings_210 z32 w33 w34 w35 w36 (z32.1 128 31)
                    else
                      T_X10_findRings_210 z32 w33 w34 w35 w36 w37
                  else none
              else none
          else none
        else none
    else
      some ((l1, l2, l3, l4, z), 1)
  else none
set_option maxRecDepth 100000 in
set_option maxHeartbeats 4000000 in
theorem b_X10_findRings_79 {s s2 : Int32 × Int32 × Int32 × Int32 × q_Z} {t : Nat} {r : Option Value} {h2 : q_H} (h : B_X10_findRings_79 s = some (s2, t)) (k0 : t = 0 → q_Ex none 138 79 [(0, .ref 128), (1, .int s2.1), (2, .int s2.2.1), (3, .int s2.2.2.1), (4, .int s2.2.2.2.1)] [] (q_K0, s2.2.2.2.2.1, s2.2.2.2.2.2, q_R0) r h2) (k1 : t = 1 → q_Ex none 138 220 [(0, .ref 128), (1, .int s2.1), (2, .int s2.2.1), (3, .int s2.2.2.1), (4, .int s2.2.2.2.1)] [] (q_K0, s2.2.2.2.2.1, s2.2.2.2.2.2, q_R0) r h2) : q_Ex none 138 79 [(0, .ref 128), (1, .int s.1), (2, .int s.2.1), (3, .int s.2.2.1), (4, .int s.2.2.2.1)] [] (q_K0, s.2.2.2.2.1, s.2.2.2.2.2, q_R0) r h2 := by
  unfold B_X10_findRings_79 at h
  obtain ⟨l1, l2, l3, l4, z⟩ := s
  dsimp only at h
  show q_Ex none 138 79 [(0, .ref 128), (1, .int l1), (2, .int l2), (3, .int l3), (4, .int l4)] [] (q_K0, z.1, z.2, q_R0) r h2
  have b11 : ¬ l2 = (0 : Int32) := by
    by_cases q : ¬ l2 = (0 : Int32)
    · exact q
    · rw [if_neg q] at h; cases h
  rw [if_pos b11] at h
  refine q_blk2 (pc2 := 82) (ls2 := [(0, .ref 128), (1, .int l1), (2, .int l2), (3, .int l3), (4, .int l4)]) (st2 := [.int (l1 - l1 / l2 * l2)]) (h2 := (q_K0, z.1, z.2, q_R0)) [(.iload_n 1, 0, 0, 0, 0, 0), (.iload_n 2, 0, 0, 0, 0, 0), (.irem, 0, 0, 0, 0, 0)] (by decide +kernel) rfl rfl ⟨trivial, trivial, b11, trivial⟩ ?_
  refine q_if_ne (off := 138) (tgt := 220) (by decide +kernel) (by decide) (fun c82_1 => ?_) (fun c82_1 => ?_)
  · rw [if_neg c82_1] at h
    cases h
    refine q_pick [0, 1, 2, 3, 4] rfl ?_
    exact k1 rfl
  · rw [if_pos c82_1] at h
    refine q_blk2 (pc2 := 95) (ls2 := [(6, .int 0), (5, .int 0), (3, .int (l3 * l2)), (0, .ref 128), (1, .int l1), (2, .int l2), (4, .int l4)]) (st2 := []) (h2 := (q_K0, z.1, z.2, q_R0)) [(.iload_n 3, 0, 0, 0, 0, 0), (.iload_n 2, 0, 0, 0, 0, 0), (.imul, 0, 0, 0, 0, 0), (.istore_n 3, 0, 0, 0, 0, 0), (.iconst 0, 0, 0, 0, 0, 0), (.istore 5, 0, 0, 0, 0, 0), (.iconst 0, 0, 0, 0, 0, 0), (.istore 6, 0, 0, 0, 0, 0)] (by decide +kernel) rfl rfl ⟨trivial, trivial, trivial, trivial, trivial, trivial, trivial, trivial, trivial⟩ ?_
    obtain ⟨⟨⟨w15, w16, w17, w18, w19, w20, z14⟩, tg40⟩, hl39, h⟩ := Option.bind_eq_some_iff.mp h
    dsimp only at h
    refine q_pick [3, 4, 5, 2, 6, 1, 0] rfl ?_
    refine q_lp_ok (P := fun s => q_Ex _ 138 95 [(0, .ref 128), (1, .int s.1), (2, .int s.2.1), (3, .int s.2.2.1), (4, .int s.2.2.2.1), (5, .int s.2.2.2.2.1), (6, .int s.2.2.2.2.2.1)] [] (q_K0, s.2.2.2.2.2.2.1, s.2.2.2.2.2.2.2, q_R0) _ _) (X := fun u s => (u = 0 → q_Ex _ 138 132 [(0, .ref 128), (1, .int s.1), (2, .int s.2.1), (3, .int s.2.2.1), (4, .int s.2.2.2.1), (5, .int s.2.2.2.2.1), (6, .int s.2.2.2.2.2.1)] [] (q_K0, s.2.2.2.2.2.2.1, s.2.2.2.2.2.2.2, q_R0) _ _)) (fun s s2 t hh k0 kx => b_X10_findRings_95 hh k0 (fun e => (kx 0 e) rfl)) hl39 ?_
    · intro e_tg40
      subst e_tg40
      rw [if_pos rfl] at h
      show q_Ex _ 138 132 [(0, .ref 128), (1, .int w15), (2, .int w16), (3, .int w17), (4, .int w18), (5, .int w19), (6, .int w20)] [] (q_K0, z14.1, z14.2, q_R0) _ _
      have b21 : ¬ w18 = (0 : Int32) := by
        by_cases q : ¬ w18 = (0 : Int32)
        · exact q
        · rw [if_neg q] at h; cases h
      rw [if_pos b21] at h
      refine q_blk2 (pc2 := 142) (ls2 := [(7, .int (w19 / w18)), (6, .int 0), (0, .ref 128), (1, .int w15), (2, .int w16), (3, .int w17), (4, .int w18), (5, .int w19)]) (st2 := []) (h2 := (q_K0, z14.1, z14.2, q_R0)) [(.iconst 0, 0, 0, 0, 0, 0), (.istore 6, 0, 0, 0, 0, 0), (.iload 5, 0, 0, 0, 0, 0), (.iload 4, 0, 0, 0, 0, 0), (.idiv, 0, 0, 0, 0, 0), (.istore 7, 0, 0, 0, 0, 0)] (by decide +kernel) rfl rfl ⟨trivial, trivial, trivial, trivial, b21, trivial, trivial⟩ ?_
      obtain ⟨⟨⟨w24, w25, w26, w27, w28, w29, z23⟩, tg42⟩, hl41, h⟩ := Option.bind_eq_some_iff.mp h
      dsimp only at h
      refine q_pick [2, 3, 4, 5, 7, 1, 0] rfl ?_
      refine q_lp_ok (P := fun s => q_Ex _ 138 142 [(0, .ref 128), (1, .int s.1), (2, .int s.2.1), (3, .int s.2.2.1), (5, .int s.2.2.2.1), (6, .int s.2.2.2.2.1), (7, .int s.2.2.2.2.2.1)] [] (q_K0, s.2.2.2.2.2.2.1, s.2.2.2.2.2.2.2, q_R0) _ _) (X := fun u s => (u = 0 → q_Ex _ 138 160 [(0, .ref 128), (1, .int s.1), (2, .int s.2.1), (3, .int s.2.2.1), (5, .int s.2.2.2.1), (6, .int s.2.2.2.2.1), (7, .int s.2.2.2.2.2.1)] [] (q_K0, s.2.2.2.2.2.2.1, s.2.2.2.2.2.2.2, q_R0) _ _)) (fun s s2 t hh k0 kx => b_X10_findRings_142 hh k0 (fun e => (kx 0 e) rfl)) hl41 ?_
      · intro e_tg42
        subst e_tg42
        rw [if_pos rfl] at h
        show q_Ex _ 138 160 [(0, .ref 128), (1, .int w24), (2, .int w25), (3, .int w26), (5, .int w27), (6, .int w28), (7, .int w29)] [] (q_K0, z23.1, z23.2, q_R0) _ _
        refine q_blk2 (pc2 := 163) (ls2 := [(7, .int 0), (0, .ref 128), (1, .int w24), (2, .int w25), (3, .int w26), (5, .int w27), (6, .int w28)]) (st2 := []) (h2 := (q_K0, z23.1, z23.2, q_R0)) [(.iconst 0, 0, 0, 0, 0, 0), (.istore 7, 0, 0, 0, 0, 0)] (by decide +kernel) rfl rfl ⟨trivial, trivial, trivial⟩ ?_
        obtain ⟨⟨⟨w33, w34, w35, w36, w37, w38, z32⟩, tg44⟩, hl43, h⟩ := Option.bind_eq_some_iff.mp h
        dsimp only at h
        refine q_pick [1, 2, 3, 4, 5, 6, 0] rfl ?_
        refine q_lp_ok (P := fun s => q_Ex _ 138 163 [(0, .ref 128), (1, .int s.1), (2, .int s.2.1), (3, .int s.2.2.1), (5, .int s.2.2.2.1), (6, .int s.2.2.2.2.1), (7, .int s.2.2.2.2.2.1)] [] (q_K0, s.2.2.2.2.2.2.1, s.2.2.2.2.2.2.2, q_R0) _ _) (X := fun u s => (u = 0 → q_Ex _ 138 191 [(0, .ref 128), (1, .int s.1), (2, .int s.2.1), (3, .int s.2.2.1), (5, .int s.2.2.2.1), (6, .int s.2.2.2.2.1), (7, .int s.2.2.2.2.2.1)] [] (q_K0, s.2.2.2.2.2.2.1, s.2.2.2.2.2.2.2, q_R0) _ _)) (fun s s2 t hh k0 kx => b_X10_findRings_163 hh k0 (fun e => (kx 0 e) rfl)) hl43 ?_
        · intro e_tg44
          subst e_tg44
          rw [if_pos rfl] at h
          show q_Ex _ 138 191 [(0, .ref 128), (1, .int w33), (2, .int w34), (3, .int w35), (5, .int w36), (6, .int w37), (7, .int w38)] [] (q_K0, z32.1, z32.2, q_R0) _ _
          refine q_blk2 (pc2 := 198) (ls2 := [(0, .ref 128), (1, .int w33), (2, .int w34), (3, .int w35), (5, .int w36), (6, .int w37), (7, .int w38)]) (st2 := [.int (z32.1 128 31), .int w37, .ref 128]) (h2 := (q_K0, z32.1, z32.2, q_R0)) [(.aload_n 0, 0, 0, 0, 0, 0), (.iload 6, 0, 0, 0, 0, 0), (.aload_n 0, 0, 0, 0, 0, 0), (.getfield 206, 0, 9, 31, 0, 0)] (by decide +kernel) rfl rfl ⟨trivial, trivial, trivial, rfl, trivial⟩ ?_
          refine q_ic_le (off := 8) (tgt := 206) (by decide +kernel) (by decide) (fun c198_2 => ?_) (fun c198_2 => ?_)
          · rw [if_pos c198_2] at h
            refine q_blk2 (pc2 := 210) (ls2 := [(0, .ref 128), (1, .int w33), (2, .int w34), (3, .int w35), (5, .int w36), (6, .int w37), (7, .int w38)]) (st2 := [.int (z32.1 128 31), .ref 128]) (h2 := (q_K0, z32.1, z32.2, q_R0)) [(.aload_n 0, 0, 0, 0, 0, 0), (.getfield 206, 0, 9, 31, 0, 0)] (by decide +kernel) rfl rfl ⟨trivial, rfl, trivial⟩ ?_
            refine q_pick [0, 1, 2, 3, 4] rfl ?_
            exact t_X10_findRings_210 h k0 k1
          · rw [if_neg c198_2] at h
            refine q_blk2 (pc2 := 203) (ls2 := [(0, .ref 128), (1, .int w33), (2, .int w34), (3, .int w35), (5, .int w36), (6, .int w37), (7, .int w38)]) (st2 := [.int w37, .ref 128]) (h2 := (q_K0, z32.1, z32.2, q_R0)) [(.iload 6, 0, 0, 0, 0, 0)] (by decide +kernel) rfl rfl ⟨trivial, trivial⟩ ?_
            refine q_goto (off := 7) (tgt := 210) (by decide +kernel) (by decide) ?_
            refine q_pick [0, 1, 2, 3, 4] rfl ?_
            exact t_X10_findRings_210 h k0 k1
def T_X10_findRings_220 (z : q_Z) (l1 : Int32) (l2 : Int32) : Option ((Int32 × Int32 × q_Z) × Nat) :=
  some ((l1, l2 + 1, z), 0)
set_option maxRecDepth 100000 in
set_option maxHeartbeats 4000000 in
theorem t_X10_findRings_220 {z : q_Z} {l1 : Int32} {l2 : Int32} {s2 : Int32 × Int32 × q_Z} {t : Nat} {r : Option Value} {h2 : q_H} (h : T_X10_findRings_220 z l1 l2 = some (s2, t)) (k0 : t = 0 → q_Ex none 138 60 [(0, .ref 128), (1, .int s2.1), (2, .int s2.2.1)] [] (q_K0, s2.2.2.1, s2.2.2.2, q_R0) r h2) (k1 : t = 1 → q_Ex none 138 226 [(0, .ref 128), (1, .int s2.1), (2, .int s2.2.1)] [] (q_K0, s2.2.2.1, s2.2.2.2, q_R0) r h2) : q_Ex none 138 220 [(0, .ref 128), (1, .int l1), (2, .int l2)] [] (q_K0, z.1, z.2, q_R0) r h2 := by
  unfold T_X10_findRings_220 at h
  refine q_blk2 (pc2 := 223) (ls2 := [(2, .int (l2 + 1)), (0, .ref 128), (1, .int l1)]) (st2 := []) (h2 := (q_K0, z.1, z.2, q_R0)) [(.iinc 2 1, 0, 0, 0, 1, 0)] (by decide +kernel) rfl rfl ⟨trivial, trivial⟩ ?_
  refine q_goto (off := -163) (tgt := 60) (by decide +kernel) (by decide) ?_
  cases h
  refine q_pick [1, 2, 0] rfl ?_
  exact k0 rfl
def B_X10_findRings_60 : Int32 × Int32 × q_Z → Option ((Int32 × Int32 × q_Z) × Nat) := fun (l1, l2, z) =>
  if l1 ≤ (1 : Int32) then
    some ((l1, l2, z), 1)
  else
    if ¬ l2 = (0 : Int32) then
      if (l1 - l1 / l2 * l2) = (0 : Int32) then
        (q_lp (B_X10_findRings_79) q_fu (l1, l2, 1, 1, z)).bind fun ((w46, w47, w48, w49, z45), tg) =>
          if tg = 0 then
            T_X10_findRings_220 z45 w46 w47
          else none
      else
        T_X10_findRings_220 z l1 l2
    else none
set_option maxRecDepth 100000 in
set_option maxHeartbeats 4000000 in
theorem b_X10_findRings_60 {s s2 : Int32 × Int32 × q_Z} {t : Nat} {r : Option Value} {h2 : q_H} (h : B_X10_findRings_60 s = some (s2, t)) (k0 : t = 0 → q_Ex none 138 60 [(0, .ref 128), (1, .int s2.1), (2, .int s2.2.1)] [] (q_K0, s2.2.2.1, s2.2.2.2, q_R0) r h2) (k1 : t = 1 → q_Ex none 138 226 [(0, .ref 128), (1, .int s2.1), (2, .int s2.2.1)] [] (q_K0, s2.2.2.1, s2.2.2.2, q_R0) r h2) : q_Ex none 138 60 [(0, .ref 128), (1, .int s.1), (2, .int s.2.1)] [] (q_K0, s.2.2.1, s.2.2.2, q_R0) r h2 := by
  unfold B_X10_findRings_60 at h
  obtain ⟨l1, l2, z⟩ := s
  dsimp only at h
  show q_Ex none 138 60 [(0, .ref 128), (1, .int l1), (2, .int l2)] [] (q_K0, z.1, z.2, q_R0) r h2
  refine q_blk2 (pc2 := 62) (ls2 := [(0, .ref 128), (1, .int l1), (2, .int l2)]) (st2 := [.int 1, .int l1]) (h2 := (q_K0, z.1, z.2, q_R0)) [(.iload_n 1, 0, 0, 0, 0, 0), (.iconst 1, 0, 0, 0, 1, 0)] (by decide +kernel) rfl rfl ⟨trivial, trivial, trivial⟩ ?_
  refine q_ic_le (off := 164) (tgt := 226) (by decide +kernel) (by decide) (fun c62_1 => ?_) (fun c62_1 => ?_)
  · rw [if_pos c62_1] at h
    cases h
    refine q_pick [0, 1, 2] rfl ?_
    exact k1 rfl
  · rw [if_neg c62_1] at h
    have b10 : ¬ l2 = (0 : Int32) := by
      by_cases q : ¬ l2 = (0 : Int32)
      · exact q
      · rw [if_neg q] at h; cases h
    rw [if_pos b10] at h
    refine q_blk2 (pc2 := 68) (ls2 := [(0, .ref 128), (1, .int l1), (2, .int l2)]) (st2 := [.int (l1 - l1 / l2 * l2)]) (h2 := (q_K0, z.1, z.2, q_R0)) [(.iload_n 1, 0, 0, 0, 0, 0), (.iload_n 2, 0, 0, 0, 0, 0), (.irem, 0, 0, 0, 0, 0)] (by decide +kernel) rfl rfl ⟨trivial, trivial, b10, trivial⟩ ?_
    refine q_if_eq (off := 6) (tgt := 74) (by decide +kernel) (by decide) (fun c68_2 => ?_) (fun c68_2 => ?_)
    · rw [if_pos c68_2] at h
      refine q_blk2 (pc2 := 79) (ls2 := [(4, .int 1), (3, .int 1), (0, .ref 128), (1, .int l1), (2, .int l2)]) (st2 := []) (h2 := (q_K0, z.1, z.2, q_R0)) [(.iconst 1, 0, 0, 0, 1, 0), (.istore_n 3, 0, 0, 0, 0, 0), (.iconst 1, 0, 0, 0, 1, 0), (.istore 4, 0, 0, 0, 0, 0)] (by decide +kernel) rfl rfl ⟨trivial, trivial, trivial, trivial, trivial⟩ ?_
      obtain ⟨⟨⟨w46, w47, w48, w49, z45⟩, tg51⟩, hl50, h⟩ := Option.bind_eq_some_iff.mp h
      dsimp only at h
      refine q_pick [2, 3, 4, 1, 0] rfl ?_
      refine q_lp_ok (P := fun s => q_Ex _ 138 79 [(0, .ref 128), (1, .int s.1), (2, .int s.2.1), (3, .int s.2.2.1), (4, .int s.2.2.2.1)] [] (q_K0, s.2.2.2.2.1, s.2.2.2.2.2, q_R0) _ _) (X := fun u s => (u = 0 → q_Ex _ 138 220 [(0, .ref 128), (1, .int s.1), (2, .int s.2.1), (3, .int s.2.2.1), (4, .int s.2.2.2.1)] [] (q_K0, s.2.2.2.2.1, s.2.2.2.2.2, q_R0) _ _)) (fun s s2 t hh k0 kx => b_X10_findRings_79 hh k0 (fun e => (kx 0 e) rfl)) hl50 ?_
      · intro e_tg51
        subst e_tg51
        rw [if_pos rfl] at h
        show q_Ex _ 138 220 [(0, .ref 128), (1, .int w46), (2, .int w47), (3, .int w48), (4, .int w49)] [] (q_K0, z45.1, z45.2, q_R0) _ _
        refine q_pick [0, 1, 2] rfl ?_
        exact t_X10_findRings_220 h k0 k1
    · rw [if_neg c68_2] at h
      refine q_goto (off := 149) (tgt := 220) (by decide +kernel) (by decide) ?_
      refine q_pick [0, 1, 2] rfl ?_
      exact t_X10_findRings_220 h k0 k1
/-- RootFormsModel.findRings()V -/
def F_X10_findRings (z : q_Z) : Option (Unit × q_Z) :=
  (q_lp (B_X10_findRings_2) q_fu (0, z)).bind fun ((w6, z5), tg) =>
    if tg = 0 then
      (q_lp (B_X10_findRings_34) q_fu (0, (q_u2 z5.1 128 31 0, z5.2))).bind fun ((w9, z8), tg) =>
        if tg = 0 then
          (q_lp (B_X10_findRings_60) q_fu (z8.1 128 23, 2, z8)).bind fun ((w53, w54, z52), tg) =>
            if tg = 0 then
              some ((), z52)
            else none
        else none
    else none
set_option maxRecDepth 100000 in
set_option maxHeartbeats 4000000 in
theorem s_X10_findRings {z zR : q_Z} {rv : Unit} (h : F_X10_findRings z = some (rv, zR)) : q_Ca 138 [.ref 128] (q_K0, z.1, z.2, q_R0) none (q_K0, zR.1, zR.2, q_R0) := by
  refine q_Ca_of (by decide) (Nat.le_of_ble_eq_true rfl) ?_
  show q_Ex none 138 0 [(0, .ref 128)] [] (q_K0, z.1, z.2, q_R0) _ _
  unfold F_X10_findRings at h
  refine q_blk2 (pc2 := 2) (ls2 := [(1, .int 0), (0, .ref 128)]) (st2 := []) (h2 := (q_K0, z.1, z.2, q_R0)) [(.iconst 0, 0, 0, 0, 0, 0), (.istore_n 1, 0, 0, 0, 0, 0)] (by decide +kernel) rfl rfl ⟨trivial, trivial, trivial⟩ ?_
  obtain ⟨⟨⟨w6, z5⟩, tg56⟩, hl55, h⟩ := Option.bind_eq_some_iff.mp h
  dsimp only at h
  refine q_pick [1, 0] rfl ?_
  refine q_lp_ok (P := fun s => q_Ex _ 138 2 [(0, .ref 128), (1, .int s.1)] [] (q_K0, s.2.1, s.2.2, q_R0) _ _) (X := fun u s => (u = 0 → q_Ex _ 138 27 [(0, .ref 128), (1, .int s.1)] [] (q_K0, s.2.1, s.2.2, q_R0) _ _)) (fun s s2 t hh k0 kx => b_X10_findRings_2 hh k0 (fun e => (kx 0 e) rfl)) hl55 ?_
  · intro e_tg56
    subst e_tg56
    rw [if_pos rfl] at h
    show q_Ex _ 138 27 [(0, .ref 128), (1, .int w6)] [] (q_K0, z5.1, z5.2, q_R0) _ _
    refine q_blk2 (pc2 := 34) (ls2 := [(1, .int 0), (0, .ref 128)]) (st2 := []) (h2 := (q_K0, q_u2 z5.1 128 31 0, z5.2, q_R0)) [(.aload_n 0, 0, 0, 0, 0, 0), (.iconst 0, 0, 0, 0, 0, 0), (.putfield 206, 0, 9, 31, 0, 0), (.iconst 0, 0, 0, 0, 0, 0), (.istore_n 1, 0, 0, 0, 0, 0)] (by decide +kernel) rfl rfl ⟨trivial, trivial, ⟨rfl, rfl, rfl⟩, trivial, trivial, trivial⟩ ?_
    obtain ⟨⟨⟨w9, z8⟩, tg58⟩, hl57, h⟩ := Option.bind_eq_some_iff.mp h
    dsimp only at h
    refine q_pick [1, 0] rfl ?_
    refine q_lp_ok (P := fun s => q_Ex _ 138 34 [(0, .ref 128), (1, .int s.1)] [] (q_K0, s.2.1, s.2.2, q_R0) _ _) (X := fun u s => (u = 0 → q_Ex _ 138 53 [(0, .ref 128), (1, .int s.1)] [] (q_K0, s.2.1, s.2.2, q_R0) _ _)) (fun s s2 t hh k0 kx => b_X10_findRings_34 hh k0 (fun e => (kx 0 e) rfl)) hl57 ?_
    · intro e_tg58
      subst e_tg58
      rw [if_pos rfl] at h
      show q_Ex _ 138 53 [(0, .ref 128), (1, .int w9)] [] (q_K0, z8.1, z8.2, q_R0) _ _
      refine q_blk2 (pc2 := 60) (ls2 := [(2, .int 2), (1, .int (z8.1 128 23)), (0, .ref 128)]) (st2 := []) (h2 := (q_K0, z8.1, z8.2, q_R0)) [(.aload_n 0, 0, 0, 0, 0, 0), (.getfield 123, 0, 9, 23, 0, 0), (.istore_n 1, 0, 0, 0, 0, 0), (.iconst 2, 0, 0, 0, 2, 0), (.istore_n 2, 0, 0, 0, 0, 0)] (by decide +kernel) rfl rfl ⟨trivial, rfl, trivial, trivial, trivial, trivial⟩ ?_
      obtain ⟨⟨⟨w53, w54, z52⟩, tg60⟩, hl59, h⟩ := Option.bind_eq_some_iff.mp h
      dsimp only at h
      refine q_pick [2, 1, 0] rfl ?_
      refine q_lp_ok (P := fun s => q_Ex _ 138 60 [(0, .ref 128), (1, .int s.1), (2, .int s.2.1)] [] (q_K0, s.2.2.1, s.2.2.2, q_R0) _ _) (X := fun u s => (u = 0 → q_Ex _ 138 226 [(0, .ref 128), (1, .int s.1), (2, .int s.2.1)] [] (q_K0, s.2.2.1, s.2.2.2, q_R0) _ _)) (fun s s2 t hh k0 kx => b_X10_findRings_60 hh k0 (fun e => (kx 0 e) rfl)) hl59 ?_
      · intro e_tg60
        subst e_tg60
        rw [if_pos rfl] at h
        show q_Ex _ 138 226 [(0, .ref 128), (1, .int w53), (2, .int w54)] [] (q_K0, z52.1, z52.2, q_R0) _ _
        cases h
        exact q_vret rfl (by decide +kernel)
/-- RootFormsModel.group(I)I -/
def F_X10_group (z : q_Z) (l1 : Int32) : Option (Int32 × q_Z) :=
  (F_X10_findRings (q_u2 z.1 128 3 0, z.2)).bind fun (_, z2) =>
    (F_X10_in z2 (Int32.toInt64 l1) 0 (Int32.toInt64 ((z2.1 128 31) - 1))).bind fun (r3, z4) =>
      if r3 = (0 : Int32) then
        (F_X10_no z4 2).bind fun (r6, z7) =>
          some (r6, z7)
      else
        if 0 ≤ Int32.toInt l1 ∧ Int32.toInt l1 < 20 then
          some (z4.1 139 (Int32.toNatClampNeg l1), (q_u2 z4.1 128 2 0, z4.2))
        else none
set_option maxRecDepth 100000 in
set_option maxHeartbeats 4000000 in
theorem s_X10_group {z zR : q_Z} {l1 : Int32} {rv : Int32} (h : F_X10_group z l1 = some (rv, zR)) : q_Ca 139 [.ref 128, .int l1] (q_K0, z.1, z.2, q_R0) (some (.int rv)) (q_K0, zR.1, zR.2, q_R0) := by
  refine q_Ca_of (by decide) (Nat.le_of_ble_eq_true rfl) ?_
  show q_Ex none 139 0 [(0, .ref 128), (1, .int l1)] [] (q_K0, z.1, z.2, q_R0) _ _
  unfold F_X10_group at h
  refine q_blk2 (pc2 := 6) (ls2 := [(0, .ref 128), (1, .int l1)]) (st2 := [.ref 128]) (h2 := (q_K0, q_u2 z.1 128 3 0, z.2, q_R0)) [(.aload_n 0, 0, 0, 0, 0, 0), (.iconst 0, 0, 0, 0, 0, 0), (.putfield 57, 0, 9, 3, 0, 0), (.aload_n 0, 0, 0, 0, 0, 0)] (by decide +kernel) rfl rfl ⟨trivial, trivial, ⟨rfl, rfl, rfl⟩, trivial, trivial⟩ ?_
  obtain ⟨⟨_, z2⟩, hc8, h⟩ := Option.bind_eq_some_iff.mp h
  dsimp only at h
  refine q_cV0 (idx := 209) (h1 := (q_K0, z2.1, z2.2, q_R0)) [.ref 128] 138 128 9 [] [] rfl (by decide +kernel) (by decide +kernel) rfl (Nat.le_of_ble_eq_true rfl) rfl (by decide) (by decide +kernel) (by decide +kernel) (s_X10_findRings hc8) ?_
  refine q_blk2 (pc2 := 20) (ls2 := [(0, .ref 128), (1, .int l1)]) (st2 := [.long (Int32.toInt64 ((z2.1 128 31) - 1)), .long 0, .long (Int32.toInt64 l1), .ref 128]) (h2 := (q_K0, z2.1, z2.2, q_R0)) [(.aload_n 0, 0, 0, 0, 0, 0), (.iload_n 1, 0, 0, 0, 0, 0), (.i2l, 0, 0, 0, 0, 0), (.lconst 0, 0, 0, 0, 0, 0), (.aload_n 0, 0, 0, 0, 0, 0), (.getfield 206, 0, 9, 31, 0, 0), (.iconst 1, 0, 0, 0, 1, 0), (.isub, 0, 0, 0, 0, 0), (.i2l, 0, 0, 0, 0, 0)] (by decide +kernel) rfl rfl ⟨trivial, trivial, trivial, trivial, trivial, rfl, trivial, trivial, trivial, trivial⟩ ?_
  obtain ⟨⟨r3, z4⟩, hc9, h⟩ := Option.bind_eq_some_iff.mp h
  dsimp only at h
  refine q_cV1 (idx := 138) (v := .int r3) (h1 := (q_K0, z4.1, z4.2, q_R0)) [.long (Int32.toInt64 ((z2.1 128 31) - 1)), .long 0, .long (Int32.toInt64 l1), .ref 128] 99 128 9 [.long (Int32.toInt64 l1), .long 0, .long (Int32.toInt64 ((z2.1 128 31) - 1))] [] rfl (by decide +kernel) (by decide +kernel) rfl (Nat.le_of_ble_eq_true rfl) rfl (by decide) (by decide +kernel) (by decide +kernel) (s_X10_in hc9) ?_
  refine q_if_ne (off := 9) (tgt := 32) (by decide +kernel) (by decide) (fun c23_1 => ?_) (fun c23_1 => ?_)
  · rw [if_neg c23_1] at h
    have b5 : 0 ≤ Int32.toInt l1 ∧ Int32.toInt l1 < 20 := by
      by_cases q : 0 ≤ Int32.toInt l1 ∧ Int32.toInt l1 < 20
      · exact q
      · rw [if_neg q] at h; cases h
    rw [if_pos b5] at h
    refine q_blk2 (pc2 := 43) (ls2 := [(0, .ref 128), (1, .int l1)]) (st2 := [.int (z4.1 139 (Int32.toNatClampNeg l1))]) (h2 := (q_K0, q_u2 z4.1 128 2 0, z4.2, q_R0)) [(.aload_n 0, 0, 0, 0, 0, 0), (.iconst 0, 0, 0, 0, 0, 0), (.putfield 61, 0, 9, 2, 0, 0), (.aload_n 0, 0, 0, 0, 0, 0), (.getfield 41, 0, 9, 29, 0, 0), (.iload_n 1, 0, 0, 0, 0, 0), (.iaload, 0, 0, 0, 0, 0)] (by decide +kernel) rfl rfl ⟨trivial, trivial, ⟨rfl, rfl, rfl⟩, trivial, rfl, trivial, ⟨_, rfl, vp_in_iff.mpr b5⟩, trivial⟩ ?_
    cases h
    exact q_iret .int rfl rfl (by decide +kernel)
  · rw [if_pos c23_1] at h
    refine q_blk2 (pc2 := 28) (ls2 := [(0, .ref 128), (1, .int l1)]) (st2 := [.int 2, .ref 128]) (h2 := (q_K0, z4.1, z4.2, q_R0)) [(.aload_n 0, 0, 0, 0, 0, 0), (.iconst 2, 0, 0, 0, 2, 0)] (by decide +kernel) rfl rfl ⟨trivial, trivial, trivial⟩ ?_
    obtain ⟨⟨r6, z7⟩, hc10, h⟩ := Option.bind_eq_some_iff.mp h
    dsimp only at h
    refine q_cV1 (idx := 152) (v := .int r6) (h1 := (q_K0, z7.1, z7.2, q_R0)) [.int 2, .ref 128] 98 128 9 [.int 2] [] rfl (by decide +kernel) (by decide +kernel) rfl (Nat.le_of_ble_eq_true rfl) rfl (by decide) (by decide +kernel) (by decide +kernel) (s_X10_no hc10) ?_
    cases h
    exact q_iret .int rfl rfl (by decide +kernel)
def B_X10_findGenera_2 : Int32 × q_Z → Option ((Int32 × q_Z) × Nat) := fun (l1, z) =>
  if (z.1 128 23) ≤ l1 then
    some ((l1, z), 1)
  else
    if 0 ≤ Int32.toInt l1 ∧ Int32.toInt l1 < 1000 then
      (F_X10_joined (q_u2 z.1 141 (Int32.toNatClampNeg l1) (-1), z.2) l1 l1).bind fun (r2, z3) =>
        if 0 ≤ Int32.toInt l1 ∧ Int32.toInt l1 < 1000 then
          some ((l1 + 1, (q_u2 z3.1 142 (Int32.toNatClampNeg l1) r2, z3.2)), 0)
        else none
    else none
set_option maxRecDepth 100000 in
set_option maxHeartbeats 4000000 in
theorem b_X10_findGenera_2 {s s2 : Int32 × q_Z} {t : Nat} {r : Option Value} {h2 : q_H} (h : B_X10_findGenera_2 s = some (s2, t)) (k0 : t = 0 → q_Ex none 140 2 [(0, .ref 128), (1, .int s2.1)] [] (q_K0, s2.2.1, s2.2.2, q_R0) r h2) (k1 : t = 1 → q_Ex none 140 35 [(0, .ref 128), (1, .int s2.1)] [] (q_K0, s2.2.1, s2.2.2, q_R0) r h2) : q_Ex none 140 2 [(0, .ref 128), (1, .int s.1)] [] (q_K0, s.2.1, s.2.2, q_R0) r h2 := by
  unfold B_X10_findGenera_2 at h
  obtain ⟨l1, z⟩ := s
  dsimp only at h
  show q_Ex none 140 2 [(0, .ref 128), (1, .int l1)] [] (q_K0, z.1, z.2, q_R0) r h2
  refine q_blk2 (pc2 := 7) (ls2 := [(0, .ref 128), (1, .int l1)]) (st2 := [.int (z.1 128 23), .int l1]) (h2 := (q_K0, z.1, z.2, q_R0)) [(.iload_n 1, 0, 0, 0, 0, 0), (.aload_n 0, 0, 0, 0, 0, 0), (.getfield 123, 0, 9, 23, 0, 0)] (by decide +kernel) rfl rfl ⟨trivial, trivial, rfl, trivial⟩ ?_
  refine q_ic_ge (off := 28) (tgt := 35) (by decide +kernel) (by decide) (fun c7_1 => ?_) (fun c7_1 => ?_)
  · rw [if_pos c7_1] at h
    cases h
    refine q_pick [0, 1] rfl ?_
    exact k1 rfl
  · rw [if_neg c7_1] at h
    have b1 : 0 ≤ Int32.toInt l1 ∧ Int32.toInt l1 < 1000 := by
      by_cases q : 0 ≤ Int32.toInt l1 ∧ Int32.toInt l1 < 1000
      · exact q
      · rw [if_neg q] at h; cases h
    rw [if_pos b1] at h
    refine q_blk2 (pc2 := 25) (ls2 := [(0, .ref 128), (1, .int l1)]) (st2 := [.int l1, .int l1, .ref 128, .int l1, .ref 142]) (h2 := (q_K0, q_u2 z.1 141 (Int32.toNatClampNeg l1) (-1), z.2, q_R0)) [(.aload_n 0, 0, 0, 0, 0, 0), (.getfield 47, 0, 9, 32, 0, 0), (.iload_n 1, 0, 0, 0, 0, 0), (.iconst (-1), 0, 0, 0, (-1), 0), (.iastore, 0, 0, 0, 0, 0), (.aload_n 0, 0, 0, 0, 0, 0), (.getfield 50, 0, 9, 33, 0, 0), (.iload_n 1, 0, 0, 0, 0, 0), (.aload_n 0, 0, 0, 0, 0, 0), (.iload_n 1, 0, 0, 0, 0, 0), (.iload_n 1, 0, 0, 0, 0, 0)] (by decide +kernel) rfl rfl ⟨trivial, rfl, trivial, trivial, ⟨_, rfl, vp_in_iff.mpr b1⟩, trivial, rfl, trivial, trivial, trivial, trivial, trivial⟩ ?_
    obtain ⟨⟨r2, z3⟩, hc5, h⟩ := Option.bind_eq_some_iff.mp h
    dsimp only at h
    refine q_cV1 (idx := 199) (v := .int r2) (h1 := (q_K0, z3.1, z3.2, q_R0)) [.int l1, .int l1, .ref 128, .int l1, .ref 142] 133 128 9 [.int l1, .int l1] [.int l1, .ref 142] rfl (by decide +kernel) (by decide +kernel) rfl (Nat.le_of_ble_eq_true rfl) rfl (by decide) (by decide +kernel) (by decide +kernel) (s_X10_joined hc5) ?_
    have b4 : 0 ≤ Int32.toInt l1 ∧ Int32.toInt l1 < 1000 := by
      by_cases q : 0 ≤ Int32.toInt l1 ∧ Int32.toInt l1 < 1000
      · exact q
      · rw [if_neg q] at h; cases h
    rw [if_pos b4] at h
    refine q_blk2 (pc2 := 32) (ls2 := [(1, .int (l1 + 1)), (0, .ref 128)]) (st2 := []) (h2 := (q_K0, q_u2 z3.1 142 (Int32.toNatClampNeg l1) r2, z3.2, q_R0)) [(.iastore, 0, 0, 0, 0, 0), (.iinc 1 1, 0, 0, 0, 1, 0)] (by decide +kernel) rfl rfl ⟨⟨_, rfl, vp_in_iff.mpr b4⟩, trivial, trivial⟩ ?_
    refine q_goto (off := -30) (tgt := 2) (by decide +kernel) (by decide) ?_
    cases h
    refine q_pick [1, 0] rfl ?_
    exact k0 rfl
def B_X10_findGenera_62 : Int32 × Int32 × Int32 × q_Z → Option ((Int32 × Int32 × Int32 × q_Z) × Nat) := fun (l1, l2, l3, z) =>
  if (z.1 128 23) ≤ l3 then
    some ((l1, l2, l3, z), 1)
  else
    if 0 ≤ Int32.toInt l3 ∧ Int32.toInt l3 < 1000 then
      (F_X10_joined z l2 (z.1 142 (Int32.toNatClampNeg l3))).bind fun (r10, z11) =>
        if 0 ≤ Int32.toInt r10 ∧ Int32.toInt r10 < 1000 then
          some ((l1, l2, l3 + 1, (q_u2 z11.1 141 (Int32.toNatClampNeg r10) l1, z11.2)), 0)
        else none
    else none
set_option maxRecDepth 100000 in
set_option maxHeartbeats 4000000 in
theorem b_X10_findGenera_62 {s s2 : Int32 × Int32 × Int32 × q_Z} {t : Nat} {r : Option Value} {h2 : q_H} (h : B_X10_findGenera_62 s = some (s2, t)) (k0 : t = 0 → q_Ex none 140 62 [(0, .ref 128), (1, .int s2.1), (2, .int s2.2.1), (3, .int s2.2.2.1)] [] (q_K0, s2.2.2.2.1, s2.2.2.2.2, q_R0) r h2) (k1 : t = 1 → q_Ex none 140 93 [(0, .ref 128), (1, .int s2.1), (2, .int s2.2.1), (3, .int s2.2.2.1)] [] (q_K0, s2.2.2.2.1, s2.2.2.2.2, q_R0) r h2) : q_Ex none 140 62 [(0, .ref 128), (1, .int s.1), (2, .int s.2.1), (3, .int s.2.2.1)] [] (q_K0, s.2.2.2.1, s.2.2.2.2, q_R0) r h2 := by
  unfold B_X10_findGenera_62 at h
  obtain ⟨l1, l2, l3, z⟩ := s
  dsimp only at h
  show q_Ex none 140 62 [(0, .ref 128), (1, .int l1), (2, .int l2), (3, .int l3)] [] (q_K0, z.1, z.2, q_R0) r h2
  refine q_blk2 (pc2 := 67) (ls2 := [(0, .ref 128), (1, .int l1), (2, .int l2), (3, .int l3)]) (st2 := [.int (z.1 128 23), .int l3]) (h2 := (q_K0, z.1, z.2, q_R0)) [(.iload_n 3, 0, 0, 0, 0, 0), (.aload_n 0, 0, 0, 0, 0, 0), (.getfield 123, 0, 9, 23, 0, 0)] (by decide +kernel) rfl rfl ⟨trivial, trivial, rfl, trivial⟩ ?_
  refine q_ic_ge (off := 26) (tgt := 93) (by decide +kernel) (by decide) (fun c67_1 => ?_) (fun c67_1 => ?_)
  · rw [if_pos c67_1] at h
    cases h
    refine q_pick [0, 1, 2, 3] rfl ?_
    exact k1 rfl
  · rw [if_neg c67_1] at h
    have b9 : 0 ≤ Int32.toInt l3 ∧ Int32.toInt l3 < 1000 := by
      by_cases q : 0 ≤ Int32.toInt l3 ∧ Int32.toInt l3 < 1000
      · exact q
      · rw [if_neg q] at h; cases h
    rw [if_pos b9] at h
    refine q_blk2 (pc2 := 82) (ls2 := [(0, .ref 128), (1, .int l1), (2, .int l2), (3, .int l3)]) (st2 := [.int (z.1 142 (Int32.toNatClampNeg l3)), .int l2, .ref 128, .ref 141]) (h2 := (q_K0, z.1, z.2, q_R0)) [(.aload_n 0, 0, 0, 0, 0, 0), (.getfield 47, 0, 9, 32, 0, 0), (.aload_n 0, 0, 0, 0, 0, 0), (.iload_n 2, 0, 0, 0, 0, 0), (.aload_n 0, 0, 0, 0, 0, 0), (.getfield 50, 0, 9, 33, 0, 0), (.iload_n 3, 0, 0, 0, 0, 0), (.iaload, 0, 0, 0, 0, 0)] (by decide +kernel) rfl rfl ⟨trivial, rfl, trivial, trivial, trivial, rfl, trivial, ⟨_, rfl, vp_in_iff.mpr b9⟩, trivial⟩ ?_
    obtain ⟨⟨r10, z11⟩, hc13, h⟩ := Option.bind_eq_some_iff.mp h
    dsimp only at h
    refine q_cV1 (idx := 199) (v := .int r10) (h1 := (q_K0, z11.1, z11.2, q_R0)) [.int (z.1 142 (Int32.toNatClampNeg l3)), .int l2, .ref 128, .ref 141] 133 128 9 [.int l2, .int (z.1 142 (Int32.toNatClampNeg l3))] [.ref 141] rfl (by decide +kernel) (by decide +kernel) rfl (Nat.le_of_ble_eq_true rfl) rfl (by decide) (by decide +kernel) (by decide +kernel) (s_X10_joined hc13) ?_
    have b12 : 0 ≤ Int32.toInt r10 ∧ Int32.toInt r10 < 1000 := by
      by_cases q : 0 ≤ Int32.toInt r10 ∧ Int32.toInt r10 < 1000
      · exact q
      · rw [if_neg q] at h; cases h
    rw [if_pos b12] at h
    refine q_blk2 (pc2 := 90) (ls2 := [(3, .int (l3 + 1)), (0, .ref 128), (1, .int l1), (2, .int l2)]) (st2 := []) (h2 := (q_K0, q_u2 z11.1 141 (Int32.toNatClampNeg r10) l1, z11.2, q_R0)) [(.iload_n 1, 0, 0, 0, 0, 0), (.iastore, 0, 0, 0, 0, 0), (.iinc 3 1, 0, 0, 0, 1, 0)] (by decide +kernel) rfl rfl ⟨trivial, ⟨_, rfl, vp_in_iff.mpr b12⟩, trivial, trivial⟩ ?_
    refine q_goto (off := -28) (tgt := 62) (by decide +kernel) (by decide) ?_
    cases h
    refine q_pick [1, 2, 3, 0] rfl ?_
    exact k0 rfl
def T_X10_findGenera_96 (z : q_Z) (l1 : Int32) (l2 : Int32) : Option ((Int32 × Int32 × q_Z) × Nat) :=
  some ((l1, l2 + 1, z), 0)
set_option maxRecDepth 100000 in
set_option maxHeartbeats 4000000 in
theorem t_X10_findGenera_96 {z : q_Z} {l1 : Int32} {l2 : Int32} {s2 : Int32 × Int32 × q_Z} {t : Nat} {r : Option Value} {h2 : q_H} (h : T_X10_findGenera_96 z l1 l2 = some (s2, t)) (k0 : t = 0 → q_Ex none 140 39 [(0, .ref 128), (1, .int s2.1), (2, .int s2.2.1)] [] (q_K0, s2.2.2.1, s2.2.2.2, q_R0) r h2) (k1 : t = 1 → q_Ex none 140 102 [(0, .ref 128), (1, .int s2.1), (2, .int s2.2.1)] [] (q_K0, s2.2.2.1, s2.2.2.2, q_R0) r h2) : q_Ex none 140 96 [(0, .ref 128), (1, .int l1), (2, .int l2)] [] (q_K0, z.1, z.2, q_R0) r h2 := by
  unfold T_X10_findGenera_96 at h
  refine q_blk2 (pc2 := 99) (ls2 := [(2, .int (l2 + 1)), (0, .ref 128), (1, .int l1)]) (st2 := []) (h2 := (q_K0, z.1, z.2, q_R0)) [(.iinc 2 1, 0, 0, 0, 1, 0)] (by decide +kernel) rfl rfl ⟨trivial, trivial⟩ ?_
  refine q_goto (off := -60) (tgt := 39) (by decide +kernel) (by decide) ?_
  cases h
  refine q_pick [1, 2, 0] rfl ?_
  exact k0 rfl
def B_X10_findGenera_39 : Int32 × Int32 × q_Z → Option ((Int32 × Int32 × q_Z) × Nat) := fun (l1, l2, z) =>
  if (z.1 128 23) ≤ l2 then
    some ((l1, l2, z), 1)
  else
    if 0 ≤ Int32.toInt l2 ∧ Int32.toInt l2 < 1000 then
      if (z.1 141 (Int32.toNatClampNeg l2)) = (-1 : Int32) then
        (q_lp (B_X10_findGenera_62) q_fu (l1, l2, 0, z)).bind fun ((w15, w16, w17, z14), tg) =>
          if tg = 0 then
            T_X10_findGenera_96 z14 (w15 + 1) w16
          else none
      else
        T_X10_findGenera_96 z l1 l2
    else none
set_option maxRecDepth 100000 in
set_option maxHeartbeats 4000000 in
theorem b_X10_findGenera_39 {s s2 : Int32 × Int32 × q_Z} {t : Nat} {r : Option Value} {h2 : q_H} (h : B_X10_findGenera_39 s = some (s2, t)) (k0 : t = 0 → q_Ex none 140 39 [(0, .ref 128), (1, .int s2.1), (2, .int s2.2.1)] [] (q_K0, s2.2.2.1, s2.2.2.2, q_R0) r h2) (k1 : t = 1 → q_Ex none 140 102 [(0, .ref 128), (1, .int s2.1), (2, .int s2.2.1)] [] (q_K0, s2.2.2.1, s2.2.2.2, q_R0) r h2) : q_Ex none 140 39 [(0, .ref 128), (1, .int s.1), (2, .int s.2.1)] [] (q_K0, s.2.2.1, s.2.2.2, q_R0) r h2 := by
  unfold B_X10_findGenera_39 at h
  obtain ⟨l1, l2, z⟩ := s
  dsimp only at h
  show q_Ex none 140 39 [(0, .ref 128), (1, .int l1), (2, .int l2)] [] (q_K0, z.1, z.2, q_R0) r h2
  refine q_blk2 (pc2 := 44) (ls2 := [(0, .ref 128), (1, .int l1), (2, .int l2)]) (st2 := [.int (z.1 128 23), .int l2]) (h2 := (q_K0, z.1, z.2, q_R0)) [(.iload_n 2, 0, 0, 0, 0, 0), (.aload_n 0, 0, 0, 0, 0, 0), (.getfield 123, 0, 9, 23, 0, 0)] (by decide +kernel) rfl rfl ⟨trivial, trivial, rfl, trivial⟩ ?_
  refine q_ic_ge (off := 58) (tgt := 102) (by decide +kernel) (by decide) (fun c44_1 => ?_) (fun c44_1 => ?_)
  · rw [if_pos c44_1] at h
    cases h
    refine q_pick [0, 1, 2] rfl ?_
    exact k1 rfl
  · rw [if_neg c44_1] at h
    have b8 : 0 ≤ Int32.toInt l2 ∧ Int32.toInt l2 < 1000 := by
      by_cases q : 0 ≤ Int32.toInt l2 ∧ Int32.toInt l2 < 1000
      · exact q
      · rw [if_neg q] at h; cases h
    rw [if_pos b8] at h
    refine q_blk2 (pc2 := 54) (ls2 := [(0, .ref 128), (1, .int l1), (2, .int l2)]) (st2 := [.int (-1), .int (z.1 141 (Int32.toNatClampNeg l2))]) (h2 := (q_K0, z.1, z.2, q_R0)) [(.aload_n 0, 0, 0, 0, 0, 0), (.getfield 47, 0, 9, 32, 0, 0), (.iload_n 2, 0, 0, 0, 0, 0), (.iaload, 0, 0, 0, 0, 0), (.iconst (-1), 0, 0, 0, (-1), 0)] (by decide +kernel) rfl rfl ⟨trivial, rfl, trivial, ⟨_, rfl, vp_in_iff.mpr b8⟩, trivial, trivial⟩ ?_
    refine q_ic_eq (off := 6) (tgt := 60) (by decide +kernel) (by decide) (fun c54_2 => ?_) (fun c54_2 => ?_)
    · rw [if_pos c54_2] at h
      refine q_blk2 (pc2 := 62) (ls2 := [(3, .int 0), (0, .ref 128), (1, .int l1), (2, .int l2)]) (st2 := []) (h2 := (q_K0, z.1, z.2, q_R0)) [(.iconst 0, 0, 0, 0, 0, 0), (.istore_n 3, 0, 0, 0, 0, 0)] (by decide +kernel) rfl rfl ⟨trivial, trivial, trivial⟩ ?_
      obtain ⟨⟨⟨w15, w16, w17, z14⟩, tg19⟩, hl18, h⟩ := Option.bind_eq_some_iff.mp h
      dsimp only at h
      refine q_pick [1, 2, 3, 0] rfl ?_
      refine q_lp_ok (P := fun s => q_Ex _ 140 62 [(0, .ref 128), (1, .int s.1), (2, .int s.2.1), (3, .int s.2.2.1)] [] (q_K0, s.2.2.2.1, s.2.2.2.2, q_R0) _ _) (X := fun u s => (u = 0 → q_Ex _ 140 93 [(0, .ref 128), (1, .int s.1), (2, .int s.2.1), (3, .int s.2.2.1)] [] (q_K0, s.2.2.2.1, s.2.2.2.2, q_R0) _ _)) (fun s s2 t hh k0 kx => b_X10_findGenera_62 hh k0 (fun e => (kx 0 e) rfl)) hl18 ?_
      · intro e_tg19
        subst e_tg19
        rw [if_pos rfl] at h
        show q_Ex _ 140 93 [(0, .ref 128), (1, .int w15), (2, .int w16), (3, .int w17)] [] (q_K0, z14.1, z14.2, q_R0) _ _
        refine q_blk2 (pc2 := 96) (ls2 := [(1, .int (w15 + 1)), (0, .ref 128), (2, .int w16), (3, .int w17)]) (st2 := []) (h2 := (q_K0, z14.1, z14.2, q_R0)) [(.iinc 1 1, 0, 0, 0, 1, 0)] (by decide +kernel) rfl rfl ⟨trivial, trivial⟩ ?_
        refine q_pick [1, 0, 2] rfl ?_
        exact t_X10_findGenera_96 h k0 k1
    · rw [if_neg c54_2] at h
      refine q_goto (off := 39) (tgt := 96) (by decide +kernel) (by decide) ?_
      refine q_pick [0, 1, 2] rfl ?_
      exact t_X10_findGenera_96 h k0 k1
/-- RootFormsModel.findGenera()I -/
def F_X10_findGenera (z : q_Z) : Option (Int32 × q_Z) :=
  (q_lp (B_X10_findGenera_2) q_fu (0, z)).bind fun ((w7, z6), tg) =>
    if tg = 0 then
      (q_lp (B_X10_findGenera_39) q_fu (0, 0, z6)).bind fun ((w21, w22, z20), tg) =>
        if tg = 0 then
          some (w21, z20)
        else none
    else none
set_option maxRecDepth 100000 in
set_option maxHeartbeats 4000000 in
theorem s_X10_findGenera {z zR : q_Z} {rv : Int32} (h : F_X10_findGenera z = some (rv, zR)) : q_Ca 140 [.ref 128] (q_K0, z.1, z.2, q_R0) (some (.int rv)) (q_K0, zR.1, zR.2, q_R0) := by
  refine q_Ca_of (by decide) (Nat.le_of_ble_eq_true rfl) ?_
  show q_Ex none 140 0 [(0, .ref 128)] [] (q_K0, z.1, z.2, q_R0) _ _
  unfold F_X10_findGenera at h
  refine q_blk2 (pc2 := 2) (ls2 := [(1, .int 0), (0, .ref 128)]) (st2 := []) (h2 := (q_K0, z.1, z.2, q_R0)) [(.iconst 0, 0, 0, 0, 0, 0), (.istore_n 1, 0, 0, 0, 0, 0)] (by decide +kernel) rfl rfl ⟨trivial, trivial, trivial⟩ ?_
  obtain ⟨⟨⟨w7, z6⟩, tg24⟩, hl23, h⟩ := Option.bind_eq_some_iff.mp h
  dsimp only at h
  refine q_pick [1, 0] rfl ?_
  refine q_lp_ok (P := fun s => q_Ex _ 140 2 [(0, .ref 128), (1, .int s.1)] [] (q_K0, s.2.1, s.2.2, q_R0) _ _) (X := fun u s => (u = 0 → q_Ex _ 140 35 [(0, .ref 128), (1, .int s.1)] [] (q_K0, s.2.1, s.2.2, q_R0) _ _)) (fun s s2 t hh k0 kx => b_X10_findGenera_2 hh k0 (fun e => (kx 0 e) rfl)) hl23 ?_
  · intro e_tg24
    subst e_tg24
    rw [if_pos rfl] at h
    show q_Ex _ 140 35 [(0, .ref 128), (1, .int w7)] [] (q_K0, z6.1, z6.2, q_R0) _ _
    refine q_blk2 (pc2 := 39) (ls2 := [(2, .int 0), (1, .int 0), (0, .ref 128)]) (st2 := []) (h2 := (q_K0, z6.1, z6.2, q_R0)) [(.iconst 0, 0, 0, 0, 0, 0), (.istore_n 1, 0, 0, 0, 0, 0), (.iconst 0, 0, 0, 0, 0, 0), (.istore_n 2, 0, 0, 0, 0, 0)] (by decide +kernel) rfl rfl ⟨trivial, trivial, trivial, trivial, trivial⟩ ?_
    obtain ⟨⟨⟨w21, w22, z20⟩, tg26⟩, hl25, h⟩ := Option.bind_eq_some_iff.mp h
    dsimp only at h
    refine q_pick [2, 1, 0] rfl ?_
    refine q_lp_ok (P := fun s => q_Ex _ 140 39 [(0, .ref 128), (1, .int s.1), (2, .int s.2.1)] [] (q_K0, s.2.2.1, s.2.2.2, q_R0) _ _) (X := fun u s => (u = 0 → q_Ex _ 140 102 [(0, .ref 128), (1, .int s.1), (2, .int s.2.1)] [] (q_K0, s.2.2.1, s.2.2.2, q_R0) _ _)) (fun s s2 t hh k0 kx => b_X10_findGenera_39 hh k0 (fun e => (kx 0 e) rfl)) hl25 ?_
    · intro e_tg26
      subst e_tg26
      rw [if_pos rfl] at h
      show q_Ex _ 140 102 [(0, .ref 128), (1, .int w21), (2, .int w22)] [] (q_K0, z20.1, z20.2, q_R0) _ _
      refine q_blk2 (pc2 := 103) (ls2 := [(0, .ref 128), (1, .int w21), (2, .int w22)]) (st2 := [.int w21]) (h2 := (q_K0, z20.1, z20.2, q_R0)) [(.iload_n 1, 0, 0, 0, 0, 0)] (by decide +kernel) rfl rfl ⟨trivial, trivial⟩ ?_
      cases h
      exact q_iret .int rfl rfl (by decide +kernel)
/-- RootFormsModel.genus(I)I -/
def F_X10_genus (z : q_Z) (l1 : Int32) : Option (Int32 × q_Z) :=
  (F_X10_isClass (q_u2 z.1 128 3 0, z.2) l1).bind fun (r1, z2) =>
    if r1 = (0 : Int32) then
      (F_X10_no z2 2).bind fun (r6, z7) =>
        some (r6, z7)
    else
      (F_X10_findGenera (q_u2 z2.1 128 2 0, z2.2)).bind fun (r3, z4) =>
        if 0 ≤ Int32.toInt l1 ∧ Int32.toInt l1 < 1000 then
          some (z4.1 141 (Int32.toNatClampNeg l1), z4)
        else none
set_option maxRecDepth 100000 in
set_option maxHeartbeats 4000000 in
theorem s_X10_genus {z zR : q_Z} {l1 : Int32} {rv : Int32} (h : F_X10_genus z l1 = some (rv, zR)) : q_Ca 141 [.ref 128, .int l1] (q_K0, z.1, z.2, q_R0) (some (.int rv)) (q_K0, zR.1, zR.2, q_R0) := by
  refine q_Ca_of (by decide) (Nat.le_of_ble_eq_true rfl) ?_
  show q_Ex none 141 0 [(0, .ref 128), (1, .int l1)] [] (q_K0, z.1, z.2, q_R0) _ _
  unfold F_X10_genus at h
  refine q_blk2 (pc2 := 7) (ls2 := [(0, .ref 128), (1, .int l1)]) (st2 := [.int l1, .ref 128]) (h2 := (q_K0, q_u2 z.1 128 3 0, z.2, q_R0)) [(.aload_n 0, 0, 0, 0, 0, 0), (.iconst 0, 0, 0, 0, 0, 0), (.putfield 57, 0, 9, 3, 0, 0), (.aload_n 0, 0, 0, 0, 0, 0), (.iload_n 1, 0, 0, 0, 0, 0)] (by decide +kernel) rfl rfl ⟨trivial, trivial, ⟨rfl, rfl, rfl⟩, trivial, trivial, trivial⟩ ?_
  obtain ⟨⟨r1, z2⟩, hc8, h⟩ := Option.bind_eq_some_iff.mp h
  dsimp only at h
  refine q_cV1 (idx := 180) (v := .int r1) (h1 := (q_K0, z2.1, z2.2, q_R0)) [.int l1, .ref 128] 127 128 9 [.int l1] [] rfl (by decide +kernel) (by decide +kernel) rfl (Nat.le_of_ble_eq_true rfl) rfl (by decide) (by decide +kernel) (by decide +kernel) (s_X10_isClass hc8) ?_
  refine q_if_ne (off := 9) (tgt := 19) (by decide +kernel) (by decide) (fun c10_1 => ?_) (fun c10_1 => ?_)
  · rw [if_neg c10_1] at h
    refine q_blk2 (pc2 := 25) (ls2 := [(0, .ref 128), (1, .int l1)]) (st2 := [.ref 128]) (h2 := (q_K0, q_u2 z2.1 128 2 0, z2.2, q_R0)) [(.aload_n 0, 0, 0, 0, 0, 0), (.iconst 0, 0, 0, 0, 0, 0), (.putfield 61, 0, 9, 2, 0, 0), (.aload_n 0, 0, 0, 0, 0, 0)] (by decide +kernel) rfl rfl ⟨trivial, trivial, ⟨rfl, rfl, rfl⟩, trivial, trivial⟩ ?_
    obtain ⟨⟨r3, z4⟩, hc9, h⟩ := Option.bind_eq_some_iff.mp h
    dsimp only at h
    refine q_cV1 (idx := 212) (v := .int r3) (h1 := (q_K0, z4.1, z4.2, q_R0)) [.ref 128] 140 128 9 [] [] rfl (by decide +kernel) (by decide +kernel) rfl (Nat.le_of_ble_eq_true rfl) rfl (by decide) (by decide +kernel) (by decide +kernel) (s_X10_findGenera hc9) ?_
    have b5 : 0 ≤ Int32.toInt l1 ∧ Int32.toInt l1 < 1000 := by
      by_cases q : 0 ≤ Int32.toInt l1 ∧ Int32.toInt l1 < 1000
      · exact q
      · rw [if_neg q] at h; cases h
    rw [if_pos b5] at h
    refine q_blk2 (pc2 := 35) (ls2 := [(2, .int r3), (0, .ref 128), (1, .int l1)]) (st2 := [.int (z4.1 141 (Int32.toNatClampNeg l1))]) (h2 := (q_K0, z4.1, z4.2, q_R0)) [(.istore_n 2, 0, 0, 0, 0, 0), (.aload_n 0, 0, 0, 0, 0, 0), (.getfield 47, 0, 9, 32, 0, 0), (.iload_n 1, 0, 0, 0, 0, 0), (.iaload, 0, 0, 0, 0, 0)] (by decide +kernel) rfl rfl ⟨trivial, trivial, rfl, trivial, ⟨_, rfl, vp_in_iff.mpr b5⟩, trivial⟩ ?_
    cases h
    exact q_iret .int rfl rfl (by decide +kernel)
  · rw [if_pos c10_1] at h
    refine q_blk2 (pc2 := 15) (ls2 := [(0, .ref 128), (1, .int l1)]) (st2 := [.int 2, .ref 128]) (h2 := (q_K0, z2.1, z2.2, q_R0)) [(.aload_n 0, 0, 0, 0, 0, 0), (.iconst 2, 0, 0, 0, 2, 0)] (by decide +kernel) rfl rfl ⟨trivial, trivial, trivial⟩ ?_
    obtain ⟨⟨r6, z7⟩, hc10, h⟩ := Option.bind_eq_some_iff.mp h
    dsimp only at h
    refine q_cV1 (idx := 152) (v := .int r6) (h1 := (q_K0, z7.1, z7.2, q_R0)) [.int 2, .ref 128] 98 128 9 [.int 2] [] rfl (by decide +kernel) (by decide +kernel) rfl (Nat.le_of_ble_eq_true rfl) rfl (by decide) (by decide +kernel) (by decide +kernel) (s_X10_no hc10) ?_
    cases h
    exact q_iret .int rfl rfl (by decide +kernel)
/-- RootFormsModel.genera()I -/
def F_X10_genera (z : q_Z) : Option (Int32 × q_Z) :=
  (F_X10_findGenera (q_u2 z.1 128 3 0, z.2)).bind fun (r1, z2) =>
    some (r1, z2)
set_option maxRecDepth 100000 in
set_option maxHeartbeats 4000000 in
theorem s_X10_genera {z zR : q_Z} {rv : Int32} (h : F_X10_genera z = some (rv, zR)) : q_Ca 142 [.ref 128] (q_K0, z.1, z.2, q_R0) (some (.int rv)) (q_K0, zR.1, zR.2, q_R0) := by
  refine q_Ca_of (by decide) (Nat.le_of_ble_eq_true rfl) ?_
  show q_Ex none 142 0 [(0, .ref 128)] [] (q_K0, z.1, z.2, q_R0) _ _
  unfold F_X10_genera at h
  refine q_blk2 (pc2 := 6) (ls2 := [(0, .ref 128)]) (st2 := [.ref 128]) (h2 := (q_K0, q_u2 z.1 128 3 0, z.2, q_R0)) [(.aload_n 0, 0, 0, 0, 0, 0), (.iconst 0, 0, 0, 0, 0, 0), (.putfield 57, 0, 9, 3, 0, 0), (.aload_n 0, 0, 0, 0, 0, 0)] (by decide +kernel) rfl rfl ⟨trivial, trivial, ⟨rfl, rfl, rfl⟩, trivial, trivial⟩ ?_
  obtain ⟨⟨r1, z2⟩, hc3, h⟩ := Option.bind_eq_some_iff.mp h
  dsimp only at h
  refine q_cV1 (idx := 212) (v := .int r1) (h1 := (q_K0, z2.1, z2.2, q_R0)) [.ref 128] 140 128 9 [] [] rfl (by decide +kernel) (by decide +kernel) rfl (Nat.le_of_ble_eq_true rfl) rfl (by decide) (by decide +kernel) (by decide +kernel) (s_X10_findGenera hc3) ?_
  cases h
  exact q_iret .int rfl rfl (by decide +kernel)
/-- RootFormsModel.begin(JJJ)V -/
def F_X10_begin (z : q_Z) (l1 : Int64) (l3 : Int64) (l5 : Int64) : Option (Unit × q_Z) :=
  (F_X10_root0 (z.1, q_u2 z.2 128 36 l1) l1).bind fun (r1, z2) =>
    some ((), (q_u2 z2.1 128 43 0, q_u2 (q_u2 (q_u2 (q_u2 (q_u2 (q_u2 (q_u2 z2.2 128 37 r1) 128 34 l3) 128 35 l5) 128 39 l5) 128 41 (-l3)) 128 40 0) 128 42 1))
set_option maxRecDepth 100000 in
set_option maxHeartbeats 4000000 in
theorem s_X10_begin {z zR : q_Z} {l1 : Int64} {l3 : Int64} {l5 : Int64} {rv : Unit} (h : F_X10_begin z l1 l3 l5 = some (rv, zR)) : q_Ca 143 [.ref 128, .long l1, .long l3, .long l5] (q_K0, z.1, z.2, q_R0) none (q_K0, zR.1, zR.2, q_R0) := by
  refine q_Ca_of (by decide) (Nat.le_of_ble_eq_true rfl) ?_
  show q_Ex none 143 0 [(0, .ref 128), (1, .long l1), (3, .long l3), (5, .long l5)] [] (q_K0, z.1, z.2, q_R0) _ _
  unfold F_X10_begin at h
  refine q_blk2 (pc2 := 8) (ls2 := [(0, .ref 128), (1, .long l1), (3, .long l3), (5, .long l5)]) (st2 := [.long l1, .ref 128, .ref 128]) (h2 := (q_K0, z.1, q_u2 z.2 128 36 l1, q_R0)) [(.aload_n 0, 0, 0, 0, 0, 0), (.lload_n 1, 0, 0, 0, 0, 0), (.putfield 215, 0, 9, 36, 0, 0), (.aload_n 0, 0, 0, 0, 0, 0), (.aload_n 0, 0, 0, 0, 0, 0), (.lload_n 1, 0, 0, 0, 0, 0)] (by decide +kernel) rfl rfl ⟨trivial, trivial, rfl, trivial, trivial, trivial, trivial⟩ ?_
  obtain ⟨⟨r1, z2⟩, hc3, h⟩ := Option.bind_eq_some_iff.mp h
  dsimp only at h
  refine q_cV1 (idx := 116) (v := .long r1) (h1 := (q_K0, z2.1, z2.2, q_R0)) [.long l1, .ref 128, .ref 128] 102 128 9 [.long l1] [.ref 128] rfl (by decide +kernel) (by decide +kernel) rfl (Nat.le_of_ble_eq_true rfl) rfl (by decide) (by decide +kernel) (by decide +kernel) (s_X10_root0 hc3) ?_
  refine q_blk2 (pc2 := 52) (ls2 := [(0, .ref 128), (1, .long l1), (3, .long l3), (5, .long l5)]) (st2 := []) (h2 := (q_K0, q_u2 z2.1 128 43 0, q_u2 (q_u2 (q_u2 (q_u2 (q_u2 (q_u2 (q_u2 z2.2 128 37 r1) 128 34 l3) 128 35 l5) 128 39 l5) 128 41 (-l3)) 128 40 0) 128 42 1, q_R0)) [(.putfield 218, 0, 9, 37, 0, 0), (.aload_n 0, 0, 0, 0, 0, 0), (.lload_n 3, 0, 0, 0, 0, 0), (.putfield 221, 0, 9, 34, 0, 0), (.aload_n 0, 0, 0, 0, 0, 0), (.lload 5, 0, 0, 0, 0, 0), (.putfield 224, 0, 9, 35, 0, 0), (.aload_n 0, 0, 0, 0, 0, 0), (.lload 5, 0, 0, 0, 0, 0), (.putfield 227, 0, 9, 39, 0, 0), (.aload_n 0, 0, 0, 0, 0, 0), (.lload_n 3, 0, 0, 0, 0, 0), (.lneg, 0, 0, 0, 0, 0), (.putfield 230, 0, 9, 41, 0, 0), (.aload_n 0, 0, 0, 0, 0, 0), (.lconst 0, 0, 0, 0, 0, 0), (.putfield 233, 0, 9, 40, 0, 0), (.aload_n 0, 0, 0, 0, 0, 0), (.lconst 1, 0, 0, 0, 0, 1), (.putfield 236, 0, 9, 42, 0, 0), (.aload_n 0, 0, 0, 0, 0, 0), (.iconst 0, 0, 0, 0, 0, 0), (.putfield 239, 0, 9, 43, 0, 0)] (by decide +kernel) rfl rfl ⟨rfl, trivial, trivial, rfl, trivial, trivial, rfl, trivial, trivial, rfl, trivial, trivial, trivial, rfl, trivial, trivial, rfl, trivial, trivial, rfl, trivial, trivial, ⟨rfl, rfl, rfl⟩, trivial⟩ ?_
  cases h
  exact q_vret rfl (by decide +kernel)
def T_X10_goes_114 (z : q_Z) : Option (Unit × q_Z) :=
  if ¬ (z.2 128 35) = (0 : Int64) then
    some ((), (z.1, q_u2 (q_u2 z.2 128 34 (((z.2 128 38) * (z.2 128 35)) - (z.2 128 34))) 128 35 (((z.2 128 36) - ((((z.2 128 38) * (z.2 128 35)) - (z.2 128 34)) * (((z.2 128 38) * (z.2 128 35)) - (z.2 128 34)))) / (z.2 128 35))))
  else none
set_option maxRecDepth 100000 in
set_option maxHeartbeats 4000000 in
theorem t_X10_goes_114 {z zR : q_Z} {rv : Unit} (h : T_X10_goes_114 z = some (rv, zR)) : q_Ex none 144 114 [(0, .ref 128)] [] (q_K0, z.1, z.2, q_R0) none (q_K0, zR.1, zR.2, q_R0) := by
  unfold T_X10_goes_114 at h
  have b2 : ¬ (z.2 128 35) = (0 : Int64) := by
    by_cases q : ¬ (z.2 128 35) = (0 : Int64)
    · exact q
    · rw [if_neg q] at h; cases h
  rw [if_pos b2] at h
  refine q_blk2 (pc2 := 155) (ls2 := [(0, .ref 128)]) (st2 := []) (h2 := (q_K0, z.1, q_u2 (q_u2 z.2 128 34 (((z.2 128 38) * (z.2 128 35)) - (z.2 128 34))) 128 35 (((z.2 128 36) - ((((z.2 128 38) * (z.2 128 35)) - (z.2 128 34)) * (((z.2 128 38) * (z.2 128 35)) - (z.2 128 34)))) / (z.2 128 35)), q_R0)) [(.aload_n 0, 0, 0, 0, 0, 0), (.aload_n 0, 0, 0, 0, 0, 0), (.getfield 243, 0, 9, 38, 0, 0), (.aload_n 0, 0, 0, 0, 0, 0), (.getfield 224, 0, 9, 35, 0, 0), (.lmul, 0, 0, 0, 0, 0), (.aload_n 0, 0, 0, 0, 0, 0), (.getfield 221, 0, 9, 34, 0, 0), (.lsub, 0, 0, 0, 0, 0), (.putfield 221, 0, 9, 34, 0, 0), (.aload_n 0, 0, 0, 0, 0, 0), (.aload_n 0, 0, 0, 0, 0, 0), (.getfield 215, 0, 9, 36, 0, 0), (.aload_n 0, 0, 0, 0, 0, 0), (.getfield 221, 0, 9, 34, 0, 0), (.aload_n 0, 0, 0, 0, 0, 0), (.getfield 221, 0, 9, 34, 0, 0), (.lmul, 0, 0, 0, 0, 0), (.lsub, 0, 0, 0, 0, 0), (.aload_n 0, 0, 0, 0, 0, 0), (.getfield 224, 0, 9, 35, 0, 0), (.ldiv, 0, 0, 0, 0, 0), (.putfield 224, 0, 9, 35, 0, 0)] (by decide +kernel) rfl rfl ⟨trivial, trivial, rfl, trivial, rfl, trivial, trivial, rfl, trivial, rfl, trivial, trivial, rfl, trivial, rfl, trivial, rfl, trivial, trivial, trivial, rfl, b2, rfl, trivial⟩ ?_
  cases h
  exact q_vret rfl (by decide +kernel)
def T_X10_goes_51 (z : q_Z) : Option (Unit × q_Z) :=
  if (z.1 128 43) = (0 : Int32) then
    T_X10_goes_114 (z.1, q_u2 (q_u2 (q_u2 (q_u2 z.2 128 41 (z.2 128 39)) 128 42 (z.2 128 40)) 128 39 (((z.2 128 38) * (z.2 128 39)) + (z.2 128 41))) 128 40 (((z.2 128 38) * (z.2 128 40)) + (z.2 128 42)))
  else
    T_X10_goes_114 z
set_option maxRecDepth 100000 in
set_option maxHeartbeats 4000000 in
theorem t_X10_goes_51 {z zR : q_Z} {rv : Unit} (h : T_X10_goes_51 z = some (rv, zR)) : q_Ex none 144 51 [(0, .ref 128)] [] (q_K0, z.1, z.2, q_R0) none (q_K0, zR.1, zR.2, q_R0) := by
  unfold T_X10_goes_51 at h
  refine q_blk2 (pc2 := 55) (ls2 := [(0, .ref 128)]) (st2 := [.int (z.1 128 43)]) (h2 := (q_K0, z.1, z.2, q_R0)) [(.aload_n 0, 0, 0, 0, 0, 0), (.getfield 239, 0, 9, 43, 0, 0)] (by decide +kernel) rfl rfl ⟨trivial, rfl, trivial⟩ ?_
  refine q_if_ne (off := 59) (tgt := 114) (by decide +kernel) (by decide) (fun c55_1 => ?_) (fun c55_1 => ?_)
  · rw [if_neg c55_1] at h
    refine q_pick [0] rfl ?_
    exact t_X10_goes_114 h
  · rw [if_pos c55_1] at h
    refine q_blk2 (pc2 := 114) (ls2 := [(3, .long (((z.2 128 38) * (z.2 128 40)) + (z.2 128 42))), (1, .long (((z.2 128 38) * (z.2 128 39)) + (z.2 128 41))), (0, .ref 128)]) (st2 := []) (h2 := (q_K0, z.1, q_u2 (q_u2 (q_u2 (q_u2 z.2 128 41 (z.2 128 39)) 128 42 (z.2 128 40)) 128 39 (((z.2 128 38) * (z.2 128 39)) + (z.2 128 41))) 128 40 (((z.2 128 38) * (z.2 128 40)) + (z.2 128 42)), q_R0)) [(.aload_n 0, 0, 0, 0, 0, 0), (.getfield 243, 0, 9, 38, 0, 0), (.aload_n 0, 0, 0, 0, 0, 0), (.getfield 227, 0, 9, 39, 0, 0), (.lmul, 0, 0, 0, 0, 0), (.aload_n 0, 0, 0, 0, 0, 0), (.getfield 230, 0, 9, 41, 0, 0), (.ladd, 0, 0, 0, 0, 0), (.lstore_n 1, 0, 0, 0, 0, 0), (.aload_n 0, 0, 0, 0, 0, 0), (.getfield 243, 0, 9, 38, 0, 0), (.aload_n 0, 0, 0, 0, 0, 0), (.getfield 233, 0, 9, 40, 0, 0), (.lmul, 0, 0, 0, 0, 0), (.aload_n 0, 0, 0, 0, 0, 0), (.getfield 236, 0, 9, 42, 0, 0), (.ladd, 0, 0, 0, 0, 0), (.lstore_n 3, 0, 0, 0, 0, 0), (.aload_n 0, 0, 0, 0, 0, 0), (.aload_n 0, 0, 0, 0, 0, 0), (.getfield 227, 0, 9, 39, 0, 0), (.putfield 230, 0, 9, 41, 0, 0), (.aload_n 0, 0, 0, 0, 0, 0), (.aload_n 0, 0, 0, 0, 0, 0), (.getfield 233, 0, 9, 40, 0, 0), (.putfield 236, 0, 9, 42, 0, 0), (.aload_n 0, 0, 0, 0, 0, 0), (.lload_n 1, 0, 0, 0, 0, 0), (.putfield 227, 0, 9, 39, 0, 0), (.aload_n 0, 0, 0, 0, 0, 0), (.lload_n 3, 0, 0, 0, 0, 0), (.putfield 233, 0, 9, 40, 0, 0)] (by decide +kernel) rfl rfl ⟨trivial, rfl, trivial, rfl, trivial, trivial, rfl, trivial, trivial, trivial, rfl, trivial, rfl, trivial, trivial, rfl, trivial, trivial, trivial, trivial, rfl, rfl, trivial, trivial, rfl, rfl, trivial, trivial, rfl, trivial, trivial, rfl, trivial⟩ ?_
    refine q_pick [2] rfl ?_
    exact t_X10_goes_114 h
/-- RootFormsModel.goes()V -/
def F_X10_goes (z : q_Z) : Option (Unit × q_Z) :=
  if ¬ (z.2 128 35) = (0 : Int64) then
    if (z.1 128 43) = (0 : Int32) then
      if ¬ (((z.2 128 34) + (z.2 128 37)) / (z.2 128 35)) = (0 : Int64) then
        if (z.2 128 39) ≤ ((1000000000000000000 - (z.2 128 41)) / (((z.2 128 34) + (z.2 128 37)) / (z.2 128 35))) then
          T_X10_goes_51 (z.1, q_u2 z.2 128 38 (((z.2 128 34) + (z.2 128 37)) / (z.2 128 35)))
        else
          T_X10_goes_51 (q_u2 z.1 128 43 1, q_u2 z.2 128 38 (((z.2 128 34) + (z.2 128 37)) / (z.2 128 35)))
      else none
    else
      T_X10_goes_51 (z.1, q_u2 z.2 128 38 (((z.2 128 34) + (z.2 128 37)) / (z.2 128 35)))
  else none
set_option maxRecDepth 100000 in
set_option maxHeartbeats 4000000 in
theorem s_X10_goes {z zR : q_Z} {rv : Unit} (h : F_X10_goes z = some (rv, zR)) : q_Ca 144 [.ref 128] (q_K0, z.1, z.2, q_R0) none (q_K0, zR.1, zR.2, q_R0) := by
  refine q_Ca_of (by decide) (Nat.le_of_ble_eq_true rfl) ?_
  show q_Ex none 144 0 [(0, .ref 128)] [] (q_K0, z.1, z.2, q_R0) _ _
  unfold F_X10_goes at h
  have b1 : ¬ (z.2 128 35) = (0 : Int64) := by
    by_cases q : ¬ (z.2 128 35) = (0 : Int64)
    · exact q
    · rw [if_neg q] at h; cases h
  rw [if_pos b1] at h
  refine q_blk2 (pc2 := 22) (ls2 := [(0, .ref 128)]) (st2 := [.int (z.1 128 43)]) (h2 := (q_K0, z.1, q_u2 z.2 128 38 (((z.2 128 34) + (z.2 128 37)) / (z.2 128 35)), q_R0)) [(.aload_n 0, 0, 0, 0, 0, 0), (.aload_n 0, 0, 0, 0, 0, 0), (.getfield 221, 0, 9, 34, 0, 0), (.aload_n 0, 0, 0, 0, 0, 0), (.getfield 218, 0, 9, 37, 0, 0), (.ladd, 0, 0, 0, 0, 0), (.aload_n 0, 0, 0, 0, 0, 0), (.getfield 224, 0, 9, 35, 0, 0), (.ldiv, 0, 0, 0, 0, 0), (.putfield 243, 0, 9, 38, 0, 0), (.aload_n 0, 0, 0, 0, 0, 0), (.getfield 239, 0, 9, 43, 0, 0)] (by decide +kernel) rfl rfl ⟨trivial, trivial, rfl, trivial, rfl, trivial, trivial, rfl, b1, rfl, trivial, rfl, trivial⟩ ?_
  refine q_if_ne (off := 29) (tgt := 51) (by decide +kernel) (by decide) (fun c22_1 => ?_) (fun c22_1 => ?_)
  · rw [if_neg c22_1] at h
    refine q_pick [0] rfl ?_
    exact t_X10_goes_51 h
  · rw [if_pos c22_1] at h
    have b3 : ¬ (((z.2 128 34) + (z.2 128 37)) / (z.2 128 35)) = (0 : Int64) := by
      by_cases q : ¬ (((z.2 128 34) + (z.2 128 37)) / (z.2 128 35)) = (0 : Int64)
      · exact q
      · rw [if_neg q] at h; cases h
    rw [if_pos b3] at h
    refine q_blk2 (pc2 := 42) (ls2 := [(0, .ref 128)]) (st2 := [.long ((1000000000000000000 - (z.2 128 41)) / (((z.2 128 34) + (z.2 128 37)) / (z.2 128 35))), .long (z.2 128 39)]) (h2 := (q_K0, z.1, q_u2 z.2 128 38 (((z.2 128 34) + (z.2 128 37)) / (z.2 128 35)), q_R0)) [(.aload_n 0, 0, 0, 0, 0, 0), (.getfield 227, 0, 9, 39, 0, 0), (.ldc2_w 246, 0, 0, 0, 0, 1000000000000000000), (.aload_n 0, 0, 0, 0, 0, 0), (.getfield 230, 0, 9, 41, 0, 0), (.lsub, 0, 0, 0, 0, 0), (.aload_n 0, 0, 0, 0, 0, 0), (.getfield 243, 0, 9, 38, 0, 0), (.ldiv, 0, 0, 0, 0, 0)] (by decide +kernel) rfl rfl ⟨trivial, rfl, trivial, trivial, rfl, trivial, trivial, rfl, b3, trivial⟩ ?_
    refine q_lc_le (off := 8) (tgt := 51) (by decide +kernel) (by decide +kernel) (by decide) (fun c42_2 => ?_) (fun c42_2 => ?_)
    · rw [if_pos c42_2] at h
      refine q_pick [0] rfl ?_
      exact t_X10_goes_51 h
    · rw [if_neg c42_2] at h
      refine q_blk2 (pc2 := 51) (ls2 := [(0, .ref 128)]) (st2 := []) (h2 := (q_K0, q_u2 z.1 128 43 1, q_u2 z.2 128 38 (((z.2 128 34) + (z.2 128 37)) / (z.2 128 35)), q_R0)) [(.aload_n 0, 0, 0, 0, 0, 0), (.iconst 1, 0, 0, 0, 1, 0), (.putfield 239, 0, 9, 43, 0, 0)] (by decide +kernel) rfl rfl ⟨trivial, trivial, ⟨rfl, rfl, rfl⟩, trivial⟩ ?_
      refine q_pick [0] rfl ?_
      exact t_X10_goes_51 h
def T_X10_unit_96 (z : q_Z) (l1 : Int32) (l2 : Int32) (t0 : Int32) : Option ((Int32 × Int32 × Int32 × q_Z) × Nat) :=
  some ((l1, l2, t0, z), 0)
set_option maxRecDepth 100000 in
set_option maxHeartbeats 4000000 in
theorem t_X10_unit_96 {z : q_Z} {l1 : Int32} {l2 : Int32} {t0 : Int32} {s2 : Int32 × Int32 × Int32 × q_Z} {t : Nat} {r : Option Value} {h2 : q_H} (h : T_X10_unit_96 z l1 l2 t0 = some (s2, t)) (k0 : t = 0 → q_Ex none 145 62 [(0, .ref 128), (1, .int s2.1), (2, .int s2.2.1), (3, .int s2.2.2.1)] [] (q_K0, s2.2.2.2.1, s2.2.2.2.2, q_R0) r h2) (k1 : t = 1 → q_Ex none 145 100 [(0, .ref 128), (1, .int s2.1), (2, .int s2.2.1), (3, .int s2.2.2.1)] [] (q_K0, s2.2.2.2.1, s2.2.2.2.2, q_R0) r h2) : q_Ex none 145 96 [(0, .ref 128), (1, .int l1), (2, .int l2)] [.int t0] (q_K0, z.1, z.2, q_R0) r h2 := by
  unfold T_X10_unit_96 at h
  refine q_blk2 (pc2 := 97) (ls2 := [(3, .int t0), (0, .ref 128), (1, .int l1), (2, .int l2)]) (st2 := []) (h2 := (q_K0, z.1, z.2, q_R0)) [(.istore_n 3, 0, 0, 0, 0, 0)] (by decide +kernel) rfl rfl ⟨trivial, trivial⟩ ?_
  refine q_goto (off := -35) (tgt := 62) (by decide +kernel) (by decide) ?_
  cases h
  refine q_pick [1, 2, 3, 0] rfl ?_
  exact k0 rfl
def T_X10_unit_79 (z : q_Z) (l1 : Int32) (t0 : Int32) : Option ((Int32 × Int32 × Int32 × q_Z) × Nat) :=
  if (z.2 128 35) = (2 : Int64) then
    T_X10_unit_96 z l1 t0 0
  else
    T_X10_unit_96 z l1 t0 1
set_option maxRecDepth 100000 in
set_option maxHeartbeats 4000000 in
theorem t_X10_unit_79 {z : q_Z} {l1 : Int32} {t0 : Int32} {s2 : Int32 × Int32 × Int32 × q_Z} {t : Nat} {r : Option Value} {h2 : q_H} (h : T_X10_unit_79 z l1 t0 = some (s2, t)) (k0 : t = 0 → q_Ex none 145 62 [(0, .ref 128), (1, .int s2.1), (2, .int s2.2.1), (3, .int s2.2.2.1)] [] (q_K0, s2.2.2.2.1, s2.2.2.2.2, q_R0) r h2) (k1 : t = 1 → q_Ex none 145 100 [(0, .ref 128), (1, .int s2.1), (2, .int s2.2.1), (3, .int s2.2.2.1)] [] (q_K0, s2.2.2.2.1, s2.2.2.2.2, q_R0) r h2) : q_Ex none 145 79 [(0, .ref 128), (1, .int l1)] [.int t0] (q_K0, z.1, z.2, q_R0) r h2 := by
  unfold T_X10_unit_79 at h
  refine q_blk2 (pc2 := 87) (ls2 := [(2, .int t0), (0, .ref 128), (1, .int l1)]) (st2 := [.long 2, .long (z.2 128 35)]) (h2 := (q_K0, z.1, z.2, q_R0)) [(.istore_n 2, 0, 0, 0, 0, 0), (.aload_n 0, 0, 0, 0, 0, 0), (.getfield 224, 0, 9, 35, 0, 0), (.ldc2_w 70, 0, 0, 0, 0, 2)] (by decide +kernel) rfl rfl ⟨trivial, trivial, rfl, trivial, trivial⟩ ?_
  refine q_lc_eq (off := 7) (tgt := 95) (by decide +kernel) (by decide +kernel) (by decide) (fun c87_1 => ?_) (fun c87_1 => ?_)
  · rw [if_pos c87_1] at h
    refine q_blk2 (pc2 := 96) (ls2 := [(2, .int t0), (0, .ref 128), (1, .int l1)]) (st2 := [.int 0]) (h2 := (q_K0, z.1, z.2, q_R0)) [(.iconst 0, 0, 0, 0, 0, 0)] (by decide +kernel) rfl rfl ⟨trivial, trivial⟩ ?_
    refine q_pick [1, 2, 0] rfl ?_
    exact t_X10_unit_96 h k0 k1
  · rw [if_neg c87_1] at h
    refine q_blk2 (pc2 := 92) (ls2 := [(2, .int t0), (0, .ref 128), (1, .int l1)]) (st2 := [.int 1]) (h2 := (q_K0, z.1, z.2, q_R0)) [(.iconst 1, 0, 0, 0, 1, 0)] (by decide +kernel) rfl rfl ⟨trivial, trivial⟩ ?_
    refine q_goto (off := 4) (tgt := 96) (by decide +kernel) (by decide) ?_
    refine q_pick [1, 2, 0] rfl ?_
    exact t_X10_unit_96 h k0 k1
def B_X10_unit_62 : Int32 × Int32 × Int32 × q_Z → Option ((Int32 × Int32 × Int32 × q_Z) × Nat) := fun (l1, l2, l3, z) =>
  if l3 = (0 : Int32) then
    some ((l1, l2, l3, z), 1)
  else
    (F_X10_goes z).bind fun (_, z6) =>
      if l2 = (0 : Int32) then
        T_X10_unit_79 z6 l1 1
      else
        T_X10_unit_79 z6 l1 0
set_option maxRecDepth 100000 in
set_option maxHeartbeats 4000000 in
theorem b_X10_unit_62 {s s2 : Int32 × Int32 × Int32 × q_Z} {t : Nat} {r : Option Value} {h2 : q_H} (h : B_X10_unit_62 s = some (s2, t)) (k0 : t = 0 → q_Ex none 145 62 [(0, .ref 128), (1, .int s2.1), (2, .int s2.2.1), (3, .int s2.2.2.1)] [] (q_K0, s2.2.2.2.1, s2.2.2.2.2, q_R0) r h2) (k1 : t = 1 → q_Ex none 145 100 [(0, .ref 128), (1, .int s2.1), (2, .int s2.2.1), (3, .int s2.2.2.1)] [] (q_K0, s2.2.2.2.1, s2.2.2.2.2, q_R0) r h2) : q_Ex none 145 62 [(0, .ref 128), (1, .int s.1), (2, .int s.2.1), (3, .int s.2.2.1)] [] (q_K0, s.2.2.2.1, s.2.2.2.2, q_R0) r h2 := by
  unfold B_X10_unit_62 at h
  obtain ⟨l1, l2, l3, z⟩ := s
  dsimp only at h
  show q_Ex none 145 62 [(0, .ref 128), (1, .int l1), (2, .int l2), (3, .int l3)] [] (q_K0, z.1, z.2, q_R0) r h2
  refine q_blk2 (pc2 := 63) (ls2 := [(0, .ref 128), (1, .int l1), (2, .int l2), (3, .int l3)]) (st2 := [.int l3]) (h2 := (q_K0, z.1, z.2, q_R0)) [(.iload_n 3, 0, 0, 0, 0, 0)] (by decide +kernel) rfl rfl ⟨trivial, trivial⟩ ?_
  refine q_if_eq (off := 37) (tgt := 100) (by decide +kernel) (by decide) (fun c63_1 => ?_) (fun c63_1 => ?_)
  · rw [if_pos c63_1] at h
    cases h
    refine q_pick [0, 1, 2, 3] rfl ?_
    exact k1 rfl
  · rw [if_neg c63_1] at h
    refine q_blk2 (pc2 := 67) (ls2 := [(0, .ref 128), (1, .int l1), (2, .int l2), (3, .int l3)]) (st2 := [.ref 128]) (h2 := (q_K0, z.1, z.2, q_R0)) [(.aload_n 0, 0, 0, 0, 0, 0)] (by decide +kernel) rfl rfl ⟨trivial, trivial⟩ ?_
    obtain ⟨⟨_, z6⟩, hc7, h⟩ := Option.bind_eq_some_iff.mp h
    dsimp only at h
    refine q_cV0 (idx := 252) (h1 := (q_K0, z6.1, z6.2, q_R0)) [.ref 128] 144 128 9 [] [] rfl (by decide +kernel) (by decide +kernel) rfl (Nat.le_of_ble_eq_true rfl) rfl (by decide) (by decide +kernel) (by decide +kernel) (s_X10_goes hc7) ?_
    refine q_blk2 (pc2 := 71) (ls2 := [(0, .ref 128), (1, .int l1), (2, .int l2), (3, .int l3)]) (st2 := [.int l2]) (h2 := (q_K0, z6.1, z6.2, q_R0)) [(.iload_n 2, 0, 0, 0, 0, 0)] (by decide +kernel) rfl rfl ⟨trivial, trivial⟩ ?_
    refine q_if_ne (off := 7) (tgt := 78) (by decide +kernel) (by decide) (fun c71_2 => ?_) (fun c71_2 => ?_)
    · rw [if_neg c71_2] at h
      refine q_blk2 (pc2 := 79) (ls2 := [(0, .ref 128), (1, .int l1), (2, .int l2), (3, .int l3)]) (st2 := [.int 0]) (h2 := (q_K0, z6.1, z6.2, q_R0)) [(.iconst 0, 0, 0, 0, 0, 0)] (by decide +kernel) rfl rfl ⟨trivial, trivial⟩ ?_
      refine q_pick [0, 1] rfl ?_
      exact t_X10_unit_79 h k0 k1
    · rw [if_pos c71_2] at h
      refine q_blk2 (pc2 := 75) (ls2 := [(0, .ref 128), (1, .int l1), (2, .int l2), (3, .int l3)]) (st2 := [.int 1]) (h2 := (q_K0, z6.1, z6.2, q_R0)) [(.iconst 1, 0, 0, 0, 1, 0)] (by decide +kernel) rfl rfl ⟨trivial, trivial⟩ ?_
      refine q_goto (off := 4) (tgt := 79) (by decide +kernel) (by decide) ?_
      refine q_pick [0, 1] rfl ?_
      exact t_X10_unit_79 h k0 k1
/-- RootFormsModel.unit(I)J -/
def F_X10_unit (z : q_Z) (l1 : Int32) : Option (Int64 × q_Z) :=
  if (0 : Int32) ≤ (z.1 128 0) then
    (F_X10_in (q_u2 z.1 128 3 0, z.2) (Int32.toInt64 l1) 0 2).bind fun (r1, z2) =>
      if r1 = (0 : Int32) then
        (F_X10_no z2 1).bind fun (r14, z15) =>
          some (Int32.toInt64 r14, z15)
      else
        (F_X10_begin z2 (Int32.toInt64 (z2.1 128 0)) (Int32.toInt64 ((z2.1 128 0) - (z2.1 128 0) / 2 * 2)) 2).bind fun (_, z4) =>
          (q_lp (B_X10_unit_62) q_fu (l1, 0, 1, z4)).bind fun ((w9, w10, w11, z8), tg) =>
            if tg = 0 then
              if (z8.1 128 43) = (0 : Int32) then
                if w9 = (0 : Int32) then
                  some (z8.2 128 39, (q_u2 z8.1 128 2 0, z8.2))
                else
                  if w9 = (1 : Int32) then
                    some (z8.2 128 40, (q_u2 z8.1 128 2 0, z8.2))
                  else
                    if w10 = (0 : Int32) then
                      some (4, (q_u2 z8.1 128 2 0, z8.2))
                    else
                      some ((-4), (q_u2 z8.1 128 2 0, z8.2))
              else
                (F_X10_no z8 6).bind fun (r12, z13) =>
                  some (Int32.toInt64 r12, z13)
            else none
  else
    (F_X10_no (q_u2 z.1 128 3 0, z.2) 5).bind fun (r16, z17) =>
      some (Int32.toInt64 r16, z17)
set_option maxRecDepth 100000 in
set_option maxHeartbeats 4000000 in
theorem s_X10_unit {z zR : q_Z} {l1 : Int32} {rv : Int64} (h : F_X10_unit z l1 = some (rv, zR)) : q_Ca 145 [.ref 128, .int l1] (q_K0, z.1, z.2, q_R0) (some (.long rv)) (q_K0, zR.1, zR.2, q_R0) := by
  refine q_Ca_of (by decide) (Nat.le_of_ble_eq_true rfl) ?_
  show q_Ex none 145 0 [(0, .ref 128), (1, .int l1)] [] (q_K0, z.1, z.2, q_R0) _ _
  unfold F_X10_unit at h
  refine q_blk2 (pc2 := 9) (ls2 := [(0, .ref 128), (1, .int l1)]) (st2 := [.int (z.1 128 0)]) (h2 := (q_K0, q_u2 z.1 128 3 0, z.2, q_R0)) [(.aload_n 0, 0, 0, 0, 0, 0), (.iconst 0, 0, 0, 0, 0, 0), (.putfield 57, 0, 9, 3, 0, 0), (.aload_n 0, 0, 0, 0, 0, 0), (.getfield 82, 0, 9, 0, 0, 0)] (by decide +kernel) rfl rfl ⟨trivial, trivial, ⟨rfl, rfl, rfl⟩, trivial, rfl, trivial⟩ ?_
  refine q_if_ge (off := 10) (tgt := 19) (by decide +kernel) (by decide) (fun c9_1 => ?_) (fun c9_1 => ?_)
  · rw [if_pos c9_1] at h
    refine q_blk2 (pc2 := 26) (ls2 := [(0, .ref 128), (1, .int l1)]) (st2 := [.long 2, .long 0, .long (Int32.toInt64 l1), .ref 128]) (h2 := (q_K0, q_u2 z.1 128 3 0, z.2, q_R0)) [(.aload_n 0, 0, 0, 0, 0, 0), (.iload_n 1, 0, 0, 0, 0, 0), (.i2l, 0, 0, 0, 0, 0), (.lconst 0, 0, 0, 0, 0, 0), (.ldc2_w 70, 0, 0, 0, 0, 2)] (by decide +kernel) rfl rfl ⟨trivial, trivial, trivial, trivial, trivial, trivial⟩ ?_
    obtain ⟨⟨r1, z2⟩, hc18, h⟩ := Option.bind_eq_some_iff.mp h
    dsimp only at h
    refine q_cV1 (idx := 138) (v := .int r1) (h1 := (q_K0, z2.1, z2.2, q_R0)) [.long 2, .long 0, .long (Int32.toInt64 l1), .ref 128] 99 128 9 [.long (Int32.toInt64 l1), .long 0, .long 2] [] rfl (by decide +kernel) (by decide +kernel) rfl (Nat.le_of_ble_eq_true rfl) rfl (by decide) (by decide +kernel) (by decide +kernel) (s_X10_in hc18) ?_
    refine q_if_ne (off := 10) (tgt := 39) (by decide +kernel) (by decide) (fun c29_2 => ?_) (fun c29_2 => ?_)
    · rw [if_neg c29_2] at h
      refine q_blk2 (pc2 := 55) (ls2 := [(0, .ref 128), (1, .int l1)]) (st2 := [.long 2, .long (Int32.toInt64 ((z2.1 128 0) - (z2.1 128 0) / 2 * 2)), .long (Int32.toInt64 (z2.1 128 0)), .ref 128]) (h2 := (q_K0, z2.1, z2.2, q_R0)) [(.aload_n 0, 0, 0, 0, 0, 0), (.aload_n 0, 0, 0, 0, 0, 0), (.getfield 82, 0, 9, 0, 0, 0), (.i2l, 0, 0, 0, 0, 0), (.aload_n 0, 0, 0, 0, 0, 0), (.getfield 82, 0, 9, 0, 0, 0), (.iconst 2, 0, 0, 0, 2, 0), (.irem, 0, 0, 0, 0, 0), (.i2l, 0, 0, 0, 0, 0), (.ldc2_w 70, 0, 0, 0, 0, 2)] (by decide +kernel) rfl rfl ⟨trivial, trivial, rfl, trivial, trivial, rfl, trivial, (by decide), trivial, trivial, trivial⟩ ?_
      obtain ⟨⟨_, z4⟩, hc19, h⟩ := Option.bind_eq_some_iff.mp h
      dsimp only at h
      refine q_cV0 (idx := 248) (h1 := (q_K0, z4.1, z4.2, q_R0)) [.long 2, .long (Int32.toInt64 ((z2.1 128 0) - (z2.1 128 0) / 2 * 2)), .long (Int32.toInt64 (z2.1 128 0)), .ref 128] 143 128 9 [.long (Int32.toInt64 (z2.1 128 0)), .long (Int32.toInt64 ((z2.1 128 0) - (z2.1 128 0) / 2 * 2)), .long 2] [] rfl (by decide +kernel) (by decide +kernel) rfl (Nat.le_of_ble_eq_true rfl) rfl (by decide) (by decide +kernel) (by decide +kernel) (s_X10_begin hc19) ?_
      refine q_blk2 (pc2 := 62) (ls2 := [(3, .int 1), (2, .int 0), (0, .ref 128), (1, .int l1)]) (st2 := []) (h2 := (q_K0, z4.1, z4.2, q_R0)) [(.iconst 0, 0, 0, 0, 0, 0), (.istore_n 2, 0, 0, 0, 0, 0), (.iconst 1, 0, 0, 0, 1, 0), (.istore_n 3, 0, 0, 0, 0, 0)] (by decide +kernel) rfl rfl ⟨trivial, trivial, trivial, trivial, trivial⟩ ?_
      obtain ⟨⟨⟨w9, w10, w11, z8⟩, tg21⟩, hl20, h⟩ := Option.bind_eq_some_iff.mp h
      dsimp only at h
      refine q_pick [2, 3, 1, 0] rfl ?_
      refine q_lp_ok (P := fun s => q_Ex _ 145 62 [(0, .ref 128), (1, .int s.1), (2, .int s.2.1), (3, .int s.2.2.1)] [] (q_K0, s.2.2.2.1, s.2.2.2.2, q_R0) _ _) (X := fun u s => (u = 0 → q_Ex _ 145 100 [(0, .ref 128), (1, .int s.1), (2, .int s.2.1), (3, .int s.2.2.1)] [] (q_K0, s.2.2.2.1, s.2.2.2.2, q_R0) _ _)) (fun s s2 t hh k0 kx => b_X10_unit_62 hh k0 (fun e => (kx 0 e) rfl)) hl20 ?_
      · intro e_tg21
        subst e_tg21
        rw [if_pos rfl] at h
        show q_Ex _ 145 100 [(0, .ref 128), (1, .int w9), (2, .int w10), (3, .int w11)] [] (q_K0, z8.1, z8.2, q_R0) _ _
        refine q_blk2 (pc2 := 104) (ls2 := [(0, .ref 128), (1, .int w9), (2, .int w10), (3, .int w11)]) (st2 := [.int (z8.1 128 43)]) (h2 := (q_K0, z8.1, z8.2, q_R0)) [(.aload_n 0, 0, 0, 0, 0, 0), (.getfield 239, 0, 9, 43, 0, 0)] (by decide +kernel) rfl rfl ⟨trivial, rfl, trivial⟩ ?_
        refine q_if_eq (off := 11) (tgt := 115) (by decide +kernel) (by decide) (fun c104_3 => ?_) (fun c104_3 => ?_)
        · rw [if_pos c104_3] at h
          refine q_blk2 (pc2 := 121) (ls2 := [(0, .ref 128), (1, .int w9), (2, .int w10), (3, .int w11)]) (st2 := [.int w9]) (h2 := (q_K0, q_u2 z8.1 128 2 0, z8.2, q_R0)) [(.aload_n 0, 0, 0, 0, 0, 0), (.iconst 0, 0, 0, 0, 0, 0), (.putfield 61, 0, 9, 2, 0, 0), (.iload_n 1, 0, 0, 0, 0, 0)] (by decide +kernel) rfl rfl ⟨trivial, trivial, ⟨rfl, rfl, rfl⟩, trivial, trivial⟩ ?_
          refine q_if_ne (off := 10) (tgt := 131) (by decide +kernel) (by decide) (fun c121_4 => ?_) (fun c121_4 => ?_)
          · rw [if_neg c121_4] at h
            refine q_blk2 (pc2 := 133) (ls2 := [(0, .ref 128), (1, .int w9), (2, .int w10), (3, .int w11)]) (st2 := [.int 1, .int w9]) (h2 := (q_K0, q_u2 z8.1 128 2 0, z8.2, q_R0)) [(.iload_n 1, 0, 0, 0, 0, 0), (.iconst 1, 0, 0, 0, 1, 0)] (by decide +kernel) rfl rfl ⟨trivial, trivial, trivial⟩ ?_
            refine q_ic_ne (off := 10) (tgt := 143) (by decide +kernel) (by decide) (fun c133_5 => ?_) (fun c133_5 => ?_)
            · rw [if_neg c133_5] at h
              refine q_blk2 (pc2 := 144) (ls2 := [(0, .ref 128), (1, .int w9), (2, .int w10), (3, .int w11)]) (st2 := [.int w10]) (h2 := (q_K0, q_u2 z8.1 128 2 0, z8.2, q_R0)) [(.iload_n 2, 0, 0, 0, 0, 0)] (by decide +kernel) rfl rfl ⟨trivial, trivial⟩ ?_
              refine q_if_eq (off := 9) (tgt := 153) (by decide +kernel) (by decide) (fun c144_6 => ?_) (fun c144_6 => ?_)
              · rw [if_pos c144_6] at h
                refine q_blk2 (pc2 := 156) (ls2 := [(0, .ref 128), (1, .int w9), (2, .int w10), (3, .int w11)]) (st2 := [.long 4]) (h2 := (q_K0, q_u2 z8.1 128 2 0, z8.2, q_R0)) [(.ldc2_w 85, 0, 0, 0, 0, 4)] (by decide +kernel) rfl rfl ⟨trivial, trivial⟩ ?_
                cases h
                exact q_lret rfl (by decide +kernel)
              · rw [if_neg c144_6] at h
                refine q_blk2 (pc2 := 150) (ls2 := [(0, .ref 128), (1, .int w9), (2, .int w10), (3, .int w11)]) (st2 := [.long (-4)]) (h2 := (q_K0, q_u2 z8.1 128 2 0, z8.2, q_R0)) [(.ldc2_w 255, 0, 0, 0, 0, (-4))] (by decide +kernel) rfl rfl ⟨trivial, trivial⟩ ?_
                refine q_goto (off := 6) (tgt := 156) (by decide +kernel) (by decide) ?_
                cases h
                exact q_lret rfl (by decide +kernel)
            · rw [if_pos c133_5] at h
              refine q_blk2 (pc2 := 140) (ls2 := [(0, .ref 128), (1, .int w9), (2, .int w10), (3, .int w11)]) (st2 := [.long (z8.2 128 40)]) (h2 := (q_K0, q_u2 z8.1 128 2 0, z8.2, q_R0)) [(.aload_n 0, 0, 0, 0, 0, 0), (.getfield 233, 0, 9, 40, 0, 0)] (by decide +kernel) rfl rfl ⟨trivial, rfl, trivial⟩ ?_
              refine q_goto (off := 16) (tgt := 156) (by decide +kernel) (by decide) ?_
              cases h
              exact q_lret rfl (by decide +kernel)
          · rw [if_pos c121_4] at h
            refine q_blk2 (pc2 := 128) (ls2 := [(0, .ref 128), (1, .int w9), (2, .int w10), (3, .int w11)]) (st2 := [.long (z8.2 128 39)]) (h2 := (q_K0, q_u2 z8.1 128 2 0, z8.2, q_R0)) [(.aload_n 0, 0, 0, 0, 0, 0), (.getfield 227, 0, 9, 39, 0, 0)] (by decide +kernel) rfl rfl ⟨trivial, rfl, trivial⟩ ?_
            refine q_goto (off := 28) (tgt := 156) (by decide +kernel) (by decide) ?_
            cases h
            exact q_lret rfl (by decide +kernel)
        · rw [if_neg c104_3] at h
          refine q_blk2 (pc2 := 110) (ls2 := [(0, .ref 128), (1, .int w9), (2, .int w10), (3, .int w11)]) (st2 := [.int 6, .ref 128]) (h2 := (q_K0, z8.1, z8.2, q_R0)) [(.aload_n 0, 0, 0, 0, 0, 0), (.bipush 6, 0, 0, 0, 6, 0)] (by decide +kernel) rfl rfl ⟨trivial, trivial, trivial⟩ ?_
          obtain ⟨⟨r12, z13⟩, hc22, h⟩ := Option.bind_eq_some_iff.mp h
          dsimp only at h
          refine q_cV1 (idx := 152) (v := .int r12) (h1 := (q_K0, z13.1, z13.2, q_R0)) [.int 6, .ref 128] 98 128 9 [.int 6] [] rfl (by decide +kernel) (by decide +kernel) rfl (Nat.le_of_ble_eq_true rfl) rfl (by decide) (by decide +kernel) (by decide +kernel) (s_X10_no hc22) ?_
          refine q_blk2 (pc2 := 114) (ls2 := [(0, .ref 128), (1, .int w9), (2, .int w10), (3, .int w11)]) (st2 := [.long (Int32.toInt64 r12)]) (h2 := (q_K0, z13.1, z13.2, q_R0)) [(.i2l, 0, 0, 0, 0, 0)] (by decide +kernel) rfl rfl ⟨trivial, trivial⟩ ?_
          cases h
          exact q_lret rfl (by decide +kernel)
    · rw [if_pos c29_2] at h
      refine q_blk2 (pc2 := 34) (ls2 := [(0, .ref 128), (1, .int l1)]) (st2 := [.int 1, .ref 128]) (h2 := (q_K0, z2.1, z2.2, q_R0)) [(.aload_n 0, 0, 0, 0, 0, 0), (.iconst 1, 0, 0, 0, 1, 0)] (by decide +kernel) rfl rfl ⟨trivial, trivial, trivial⟩ ?_
      obtain ⟨⟨r14, z15⟩, hc23, h⟩ := Option.bind_eq_some_iff.mp h
      dsimp only at h
      refine q_cV1 (idx := 152) (v := .int r14) (h1 := (q_K0, z15.1, z15.2, q_R0)) [.int 1, .ref 128] 98 128 9 [.int 1] [] rfl (by decide +kernel) (by decide +kernel) rfl (Nat.le_of_ble_eq_true rfl) rfl (by decide) (by decide +kernel) (by decide +kernel) (s_X10_no hc23) ?_
      refine q_blk2 (pc2 := 38) (ls2 := [(0, .ref 128), (1, .int l1)]) (st2 := [.long (Int32.toInt64 r14)]) (h2 := (q_K0, z15.1, z15.2, q_R0)) [(.i2l, 0, 0, 0, 0, 0)] (by decide +kernel) rfl rfl ⟨trivial, trivial⟩ ?_
      cases h
      exact q_lret rfl (by decide +kernel)
  · rw [if_neg c9_1] at h
    refine q_blk2 (pc2 := 14) (ls2 := [(0, .ref 128), (1, .int l1)]) (st2 := [.int 5, .ref 128]) (h2 := (q_K0, q_u2 z.1 128 3 0, z.2, q_R0)) [(.aload_n 0, 0, 0, 0, 0, 0), (.iconst 5, 0, 0, 0, 5, 0)] (by decide +kernel) rfl rfl ⟨trivial, trivial, trivial⟩ ?_
    obtain ⟨⟨r16, z17⟩, hc24, h⟩ := Option.bind_eq_some_iff.mp h
    dsimp only at h
    refine q_cV1 (idx := 152) (v := .int r16) (h1 := (q_K0, z17.1, z17.2, q_R0)) [.int 5, .ref 128] 98 128 9 [.int 5] [] rfl (by decide +kernel) (by decide +kernel) rfl (Nat.le_of_ble_eq_true rfl) rfl (by decide) (by decide +kernel) (by decide +kernel) (s_X10_no hc24) ?_
    refine q_blk2 (pc2 := 18) (ls2 := [(0, .ref 128), (1, .int l1)]) (st2 := [.long (Int32.toInt64 r16)]) (h2 := (q_K0, z17.1, z17.2, q_R0)) [(.i2l, 0, 0, 0, 0, 0)] (by decide +kernel) rfl rfl ⟨trivial, trivial⟩ ?_
    cases h
    exact q_lret rfl (by decide +kernel)
/-- RootFormsModel.isRooted(I)Z -/
def F_X10_isRooted (z : q_Z) (l1 : Int32) : Option (Int32 × q_Z) :=
  (F_X10_in z (Int32.toInt64 l1) 2 10000).bind fun (r1, z2) =>
    if r1 = (0 : Int32) then
      some (0, z2)
    else
      (F_X10_root0 z2 (Int32.toInt64 l1)).bind fun (r3, z4) =>
        if (r3 * r3) = (Int32.toInt64 l1) then
          some (0, z4)
        else
          some (1, z4)
set_option maxRecDepth 100000 in
set_option maxHeartbeats 4000000 in
theorem s_X10_isRooted {z zR : q_Z} {l1 : Int32} {rv : Int32} (h : F_X10_isRooted z l1 = some (rv, zR)) : q_Ca 146 [.ref 128, .int l1] (q_K0, z.1, z.2, q_R0) (some (.int rv)) (q_K0, zR.1, zR.2, q_R0) := by
  refine q_Ca_of (by decide) (Nat.le_of_ble_eq_true rfl) ?_
  show q_Ex none 146 0 [(0, .ref 128), (1, .int l1)] [] (q_K0, z.1, z.2, q_R0) _ _
  unfold F_X10_isRooted at h
  refine q_blk2 (pc2 := 9) (ls2 := [(0, .ref 128), (1, .int l1)]) (st2 := [.long 10000, .long 2, .long (Int32.toInt64 l1), .ref 128]) (h2 := (q_K0, z.1, z.2, q_R0)) [(.aload_n 0, 0, 0, 0, 0, 0), (.iload_n 1, 0, 0, 0, 0, 0), (.i2l, 0, 0, 0, 0, 0), (.ldc2_w 70, 0, 0, 0, 0, 2), (.ldc2_w 257, 0, 0, 0, 0, 10000)] (by decide +kernel) rfl rfl ⟨trivial, trivial, trivial, trivial, trivial, trivial⟩ ?_
  obtain ⟨⟨r1, z2⟩, hc5, h⟩ := Option.bind_eq_some_iff.mp h
  dsimp only at h
  refine q_cV1 (idx := 138) (v := .int r1) (h1 := (q_K0, z2.1, z2.2, q_R0)) [.long 10000, .long 2, .long (Int32.toInt64 l1), .ref 128] 99 128 9 [.long (Int32.toInt64 l1), .long 2, .long 10000] [] rfl (by decide +kernel) (by decide +kernel) rfl (Nat.le_of_ble_eq_true rfl) rfl (by decide) (by decide +kernel) (by decide +kernel) (s_X10_in hc5) ?_
  refine q_if_ne (off := 5) (tgt := 17) (by decide +kernel) (by decide) (fun c12_1 => ?_) (fun c12_1 => ?_)
  · rw [if_neg c12_1] at h
    refine q_blk2 (pc2 := 20) (ls2 := [(0, .ref 128), (1, .int l1)]) (st2 := [.long (Int32.toInt64 l1), .ref 128]) (h2 := (q_K0, z2.1, z2.2, q_R0)) [(.aload_n 0, 0, 0, 0, 0, 0), (.iload_n 1, 0, 0, 0, 0, 0), (.i2l, 0, 0, 0, 0, 0)] (by decide +kernel) rfl rfl ⟨trivial, trivial, trivial, trivial⟩ ?_
    obtain ⟨⟨r3, z4⟩, hc6, h⟩ := Option.bind_eq_some_iff.mp h
    dsimp only at h
    refine q_cV1 (idx := 116) (v := .long r3) (h1 := (q_K0, z4.1, z4.2, q_R0)) [.long (Int32.toInt64 l1), .ref 128] 102 128 9 [.long (Int32.toInt64 l1)] [] rfl (by decide +kernel) (by decide +kernel) rfl (Nat.le_of_ble_eq_true rfl) rfl (by decide) (by decide +kernel) (by decide +kernel) (s_X10_root0 hc6) ?_
    refine q_blk2 (pc2 := 29) (ls2 := [(2, .long r3), (0, .ref 128), (1, .int l1)]) (st2 := [.long (Int32.toInt64 l1), .long (r3 * r3)]) (h2 := (q_K0, z4.1, z4.2, q_R0)) [(.lstore_n 2, 0, 0, 0, 0, 0), (.lload_n 2, 0, 0, 0, 0, 0), (.lload_n 2, 0, 0, 0, 0, 0), (.lmul, 0, 0, 0, 0, 0), (.iload_n 1, 0, 0, 0, 0, 0), (.i2l, 0, 0, 0, 0, 0)] (by decide +kernel) rfl rfl ⟨trivial, trivial, trivial, trivial, trivial, trivial, trivial⟩ ?_
    refine q_lc_eq (off := 7) (tgt := 37) (by decide +kernel) (by decide +kernel) (by decide) (fun c29_2 => ?_) (fun c29_2 => ?_)
    · rw [if_pos c29_2] at h
      refine q_blk2 (pc2 := 38) (ls2 := [(2, .long r3), (0, .ref 128), (1, .int l1)]) (st2 := [.int 0]) (h2 := (q_K0, z4.1, z4.2, q_R0)) [(.iconst 0, 0, 0, 0, 0, 0)] (by decide +kernel) rfl rfl ⟨trivial, trivial⟩ ?_
      cases h
      exact q_iret .boolean rfl rfl (by decide +kernel)
    · rw [if_neg c29_2] at h
      refine q_blk2 (pc2 := 34) (ls2 := [(2, .long r3), (0, .ref 128), (1, .int l1)]) (st2 := [.int 1]) (h2 := (q_K0, z4.1, z4.2, q_R0)) [(.iconst 1, 0, 0, 0, 1, 0)] (by decide +kernel) rfl rfl ⟨trivial, trivial⟩ ?_
      refine q_goto (off := 4) (tgt := 38) (by decide +kernel) (by decide) ?_
      cases h
      exact q_iret .boolean rfl rfl (by decide +kernel)
  · rw [if_pos c12_1] at h
    refine q_blk2 (pc2 := 16) (ls2 := [(0, .ref 128), (1, .int l1)]) (st2 := [.int 0]) (h2 := (q_K0, z2.1, z2.2, q_R0)) [(.iconst 0, 0, 0, 0, 0, 0)] (by decide +kernel) rfl rfl ⟨trivial, trivial⟩ ?_
    cases h
    exact q_iret .boolean rfl rfl (by decide +kernel)
def T_X10_period_89 (z : q_Z) (l2 : Int64) (l4 : Int64) (l6 : Int32) (t0 : Int32) : Option ((Int64 × Int64 × Int32 × Int32 × q_Z) × Nat) :=
  some ((l2, l4, l6, t0, z), 0)
set_option maxRecDepth 100000 in
set_option maxHeartbeats 4000000 in
theorem t_X10_period_89 {z : q_Z} {l2 : Int64} {l4 : Int64} {l6 : Int32} {t0 : Int32} {s2 : Int64 × Int64 × Int32 × Int32 × q_Z} {t : Nat} {r : Option Value} {h2 : q_H} (h : T_X10_period_89 z l2 l4 l6 t0 = some (s2, t)) (k0 : t = 0 → q_Ex none 147 53 [(0, .ref 128), (2, .long s2.1), (4, .long s2.2.1), (6, .int s2.2.2.1), (7, .int s2.2.2.2.1)] [] (q_K0, s2.2.2.2.2.1, s2.2.2.2.2.2, q_R0) r h2) (k1 : t = 1 → q_Ex none 147 94 [(0, .ref 128), (2, .long s2.1), (4, .long s2.2.1), (6, .int s2.2.2.1), (7, .int s2.2.2.2.1)] [] (q_K0, s2.2.2.2.2.1, s2.2.2.2.2.2, q_R0) r h2) : q_Ex none 147 89 [(0, .ref 128), (2, .long l2), (4, .long l4), (6, .int l6)] [.int t0] (q_K0, z.1, z.2, q_R0) r h2 := by
  unfold T_X10_period_89 at h
  refine q_blk2 (pc2 := 91) (ls2 := [(7, .int t0), (0, .ref 128), (2, .long l2), (4, .long l4), (6, .int l6)]) (st2 := []) (h2 := (q_K0, z.1, z.2, q_R0)) [(.istore 7, 0, 0, 0, 0, 0)] (by decide +kernel) rfl rfl ⟨trivial, trivial⟩ ?_
  refine q_goto (off := -38) (tgt := 53) (by decide +kernel) (by decide) ?_
  cases h
  refine q_pick [1, 2, 3, 4, 0] rfl ?_
  exact k0 rfl
def T_X10_period_84 (z : q_Z) (l2 : Int64) (l4 : Int64) (l6 : Int32) : Option ((Int64 × Int64 × Int32 × Int32 × q_Z) × Nat) :=
  T_X10_period_89 z l2 l4 l6 1
set_option maxRecDepth 100000 in
set_option maxHeartbeats 4000000 in
theorem t_X10_period_84 {z : q_Z} {l2 : Int64} {l4 : Int64} {l6 : Int32} {s2 : Int64 × Int64 × Int32 × Int32 × q_Z} {t : Nat} {r : Option Value} {h2 : q_H} (h : T_X10_period_84 z l2 l4 l6 = some (s2, t)) (k0 : t = 0 → q_Ex none 147 53 [(0, .ref 128), (2, .long s2.1), (4, .long s2.2.1), (6, .int s2.2.2.1), (7, .int s2.2.2.2.1)] [] (q_K0, s2.2.2.2.2.1, s2.2.2.2.2.2, q_R0) r h2) (k1 : t = 1 → q_Ex none 147 94 [(0, .ref 128), (2, .long s2.1), (4, .long s2.2.1), (6, .int s2.2.2.1), (7, .int s2.2.2.2.1)] [] (q_K0, s2.2.2.2.2.1, s2.2.2.2.2.2, q_R0) r h2) : q_Ex none 147 84 [(0, .ref 128), (2, .long l2), (4, .long l4), (6, .int l6)] [] (q_K0, z.1, z.2, q_R0) r h2 := by
  unfold T_X10_period_84 at h
  refine q_blk2 (pc2 := 85) (ls2 := [(0, .ref 128), (2, .long l2), (4, .long l4), (6, .int l6)]) (st2 := [.int 1]) (h2 := (q_K0, z.1, z.2, q_R0)) [(.iconst 1, 0, 0, 0, 1, 0)] (by decide +kernel) rfl rfl ⟨trivial, trivial⟩ ?_
  refine q_goto (off := 4) (tgt := 89) (by decide +kernel) (by decide) ?_
  refine q_pick [0, 1, 2, 3] rfl ?_
  exact t_X10_period_89 h k0 k1
def B_X10_period_53 : Int64 × Int64 × Int32 × Int32 × q_Z → Option ((Int64 × Int64 × Int32 × Int32 × q_Z) × Nat) := fun (l2, l4, l6, l7, z) =>
  if l7 = (0 : Int32) then
    some ((l2, l4, l6, l7, z), 1)
  else
    (F_X10_goes z).bind fun (_, z8) =>
      if (z8.2 128 34) = l2 then
        if (z8.2 128 35) = l4 then
          T_X10_period_89 z8 l2 l4 (l6 + 1) 0
        else
          T_X10_period_84 z8 l2 l4 (l6 + 1)
      else
        T_X10_period_84 z8 l2 l4 (l6 + 1)
set_option maxRecDepth 100000 in
set_option maxHeartbeats 4000000 in
theorem b_X10_period_53 {s s2 : Int64 × Int64 × Int32 × Int32 × q_Z} {t : Nat} {r : Option Value} {h2 : q_H} (h : B_X10_period_53 s = some (s2, t)) (k0 : t = 0 → q_Ex none 147 53 [(0, .ref 128), (2, .long s2.1), (4, .long s2.2.1), (6, .int s2.2.2.1), (7, .int s2.2.2.2.1)] [] (q_K0, s2.2.2.2.2.1, s2.2.2.2.2.2, q_R0) r h2) (k1 : t = 1 → q_Ex none 147 94 [(0, .ref 128), (2, .long s2.1), (4, .long s2.2.1), (6, .int s2.2.2.1), (7, .int s2.2.2.2.1)] [] (q_K0, s2.2.2.2.2.1, s2.2.2.2.2.2, q_R0) r h2) : q_Ex none 147 53 [(0, .ref 128), (2, .long s.1), (4, .long s.2.1), (6, .int s.2.2.1), (7, .int s.2.2.2.1)] [] (q_K0, s.2.2.2.2.1, s.2.2.2.2.2, q_R0) r h2 := by
  unfold B_X10_period_53 at h
  obtain ⟨l2, l4, l6, l7, z⟩ := s
  dsimp only at h
  show q_Ex none 147 53 [(0, .ref 128), (2, .long l2), (4, .long l4), (6, .int l6), (7, .int l7)] [] (q_K0, z.1, z.2, q_R0) r h2
  refine q_blk2 (pc2 := 55) (ls2 := [(0, .ref 128), (2, .long l2), (4, .long l4), (6, .int l6), (7, .int l7)]) (st2 := [.int l7]) (h2 := (q_K0, z.1, z.2, q_R0)) [(.iload 7, 0, 0, 0, 0, 0)] (by decide +kernel) rfl rfl ⟨trivial, trivial⟩ ?_
  refine q_if_eq (off := 39) (tgt := 94) (by decide +kernel) (by decide) (fun c55_1 => ?_) (fun c55_1 => ?_)
  · rw [if_pos c55_1] at h
    cases h
    refine q_pick [0, 1, 2, 3, 4] rfl ?_
    exact k1 rfl
  · rw [if_neg c55_1] at h
    refine q_blk2 (pc2 := 59) (ls2 := [(0, .ref 128), (2, .long l2), (4, .long l4), (6, .int l6), (7, .int l7)]) (st2 := [.ref 128]) (h2 := (q_K0, z.1, z.2, q_R0)) [(.aload_n 0, 0, 0, 0, 0, 0)] (by decide +kernel) rfl rfl ⟨trivial, trivial⟩ ?_
    obtain ⟨⟨_, z8⟩, hc9, h⟩ := Option.bind_eq_some_iff.mp h
    dsimp only at h
    refine q_cV0 (idx := 252) (h1 := (q_K0, z8.1, z8.2, q_R0)) [.ref 128] 144 128 9 [] [] rfl (by decide +kernel) (by decide +kernel) rfl (Nat.le_of_ble_eq_true rfl) rfl (by decide) (by decide +kernel) (by decide +kernel) (s_X10_goes hc9) ?_
    refine q_blk2 (pc2 := 70) (ls2 := [(6, .int (l6 + 1)), (0, .ref 128), (2, .long l2), (4, .long l4), (7, .int l7)]) (st2 := [.long l2, .long (z8.2 128 34)]) (h2 := (q_K0, z8.1, z8.2, q_R0)) [(.iinc 6 1, 0, 0, 0, 1, 0), (.aload_n 0, 0, 0, 0, 0, 0), (.getfield 221, 0, 9, 34, 0, 0), (.lload_n 2, 0, 0, 0, 0, 0)] (by decide +kernel) rfl rfl ⟨trivial, trivial, rfl, trivial, trivial⟩ ?_
    refine q_lc_ne (off := 13) (tgt := 84) (by decide +kernel) (by decide +kernel) (by decide) (fun c70_2 => ?_) (fun c70_2 => ?_)
    · rw [if_neg c70_2] at h
      refine q_pick [1, 2, 3, 0] rfl ?_
      exact t_X10_period_84 h k0 k1
    · rw [if_pos c70_2] at h
      refine q_blk2 (pc2 := 80) (ls2 := [(6, .int (l6 + 1)), (0, .ref 128), (2, .long l2), (4, .long l4), (7, .int l7)]) (st2 := [.long l4, .long (z8.2 128 35)]) (h2 := (q_K0, z8.1, z8.2, q_R0)) [(.aload_n 0, 0, 0, 0, 0, 0), (.getfield 224, 0, 9, 35, 0, 0), (.lload 4, 0, 0, 0, 0, 0)] (by decide +kernel) rfl rfl ⟨trivial, rfl, trivial, trivial⟩ ?_
      refine q_lc_eq (off := 7) (tgt := 88) (by decide +kernel) (by decide +kernel) (by decide) (fun c80_3 => ?_) (fun c80_3 => ?_)
      · rw [if_pos c80_3] at h
        refine q_blk2 (pc2 := 89) (ls2 := [(6, .int (l6 + 1)), (0, .ref 128), (2, .long l2), (4, .long l4), (7, .int l7)]) (st2 := [.int 0]) (h2 := (q_K0, z8.1, z8.2, q_R0)) [(.iconst 0, 0, 0, 0, 0, 0)] (by decide +kernel) rfl rfl ⟨trivial, trivial⟩ ?_
        refine q_pick [1, 2, 3, 0] rfl ?_
        exact t_X10_period_89 h k0 k1
      · rw [if_neg c80_3] at h
        refine q_pick [1, 2, 3, 0] rfl ?_
        exact t_X10_period_84 h k0 k1
/-- RootFormsModel.period(I)I -/
def F_X10_period (z : q_Z) (l1 : Int32) : Option (Int32 × q_Z) :=
  (F_X10_isRooted (q_u2 z.1 128 3 0, z.2) l1).bind fun (r1, z2) =>
    if r1 = (0 : Int32) then
      (F_X10_no z2 1).bind fun (r15, z16) =>
        some (r15, z16)
    else
      (F_X10_begin (q_u2 z2.1 128 2 0, z2.2) (Int32.toInt64 l1) 0 1).bind fun (_, z4) =>
        (F_X10_goes z4).bind fun (_, z6) =>
          (q_lp (B_X10_period_53) q_fu (z6.2 128 34, z6.2 128 35, 0, 1, z6)).bind fun ((w11, w12, w13, w14, z10), tg) =>
            if tg = 0 then
              some (w13, z10)
            else none
set_option maxRecDepth 100000 in
set_option maxHeartbeats 4000000 in
theorem s_X10_period {z zR : q_Z} {l1 : Int32} {rv : Int32} (h : F_X10_period z l1 = some (rv, zR)) : q_Ca 147 [.ref 128, .int l1] (q_K0, z.1, z.2, q_R0) (some (.int rv)) (q_K0, zR.1, zR.2, q_R0) := by
  refine q_Ca_of (by decide) (Nat.le_of_ble_eq_true rfl) ?_
  show q_Ex none 147 0 [(0, .ref 128), (1, .int l1)] [] (q_K0, z.1, z.2, q_R0) _ _
  unfold F_X10_period at h
  refine q_blk2 (pc2 := 7) (ls2 := [(0, .ref 128), (1, .int l1)]) (st2 := [.int l1, .ref 128]) (h2 := (q_K0, q_u2 z.1 128 3 0, z.2, q_R0)) [(.aload_n 0, 0, 0, 0, 0, 0), (.iconst 0, 0, 0, 0, 0, 0), (.putfield 57, 0, 9, 3, 0, 0), (.aload_n 0, 0, 0, 0, 0, 0), (.iload_n 1, 0, 0, 0, 0, 0)] (by decide +kernel) rfl rfl ⟨trivial, trivial, ⟨rfl, rfl, rfl⟩, trivial, trivial, trivial⟩ ?_
  obtain ⟨⟨r1, z2⟩, hc17, h⟩ := Option.bind_eq_some_iff.mp h
  dsimp only at h
  refine q_cV1 (idx := 259) (v := .int r1) (h1 := (q_K0, z2.1, z2.2, q_R0)) [.int l1, .ref 128] 146 128 9 [.int l1] [] rfl (by decide +kernel) (by decide +kernel) rfl (Nat.le_of_ble_eq_true rfl) rfl (by decide) (by decide +kernel) (by decide +kernel) (s_X10_isRooted hc17) ?_
  refine q_if_ne (off := 9) (tgt := 19) (by decide +kernel) (by decide) (fun c10_1 => ?_) (fun c10_1 => ?_)
  · rw [if_neg c10_1] at h
    refine q_blk2 (pc2 := 29) (ls2 := [(0, .ref 128), (1, .int l1)]) (st2 := [.long 1, .long 0, .long (Int32.toInt64 l1), .ref 128]) (h2 := (q_K0, q_u2 z2.1 128 2 0, z2.2, q_R0)) [(.aload_n 0, 0, 0, 0, 0, 0), (.iconst 0, 0, 0, 0, 0, 0), (.putfield 61, 0, 9, 2, 0, 0), (.aload_n 0, 0, 0, 0, 0, 0), (.iload_n 1, 0, 0, 0, 0, 0), (.i2l, 0, 0, 0, 0, 0), (.lconst 0, 0, 0, 0, 0, 0), (.lconst 1, 0, 0, 0, 0, 1)] (by decide +kernel) rfl rfl ⟨trivial, trivial, ⟨rfl, rfl, rfl⟩, trivial, trivial, trivial, trivial, trivial, trivial⟩ ?_
    obtain ⟨⟨_, z4⟩, hc18, h⟩ := Option.bind_eq_some_iff.mp h
    dsimp only at h
    refine q_cV0 (idx := 248) (h1 := (q_K0, z4.1, z4.2, q_R0)) [.long 1, .long 0, .long (Int32.toInt64 l1), .ref 128] 143 128 9 [.long (Int32.toInt64 l1), .long 0, .long 1] [] rfl (by decide +kernel) (by decide +kernel) rfl (Nat.le_of_ble_eq_true rfl) rfl (by decide) (by decide +kernel) (by decide +kernel) (s_X10_begin hc18) ?_
    refine q_blk2 (pc2 := 33) (ls2 := [(0, .ref 128), (1, .int l1)]) (st2 := [.ref 128]) (h2 := (q_K0, z4.1, z4.2, q_R0)) [(.aload_n 0, 0, 0, 0, 0, 0)] (by decide +kernel) rfl rfl ⟨trivial, trivial⟩ ?_
    obtain ⟨⟨_, z6⟩, hc19, h⟩ := Option.bind_eq_some_iff.mp h
    dsimp only at h
    refine q_cV0 (idx := 252) (h1 := (q_K0, z6.1, z6.2, q_R0)) [.ref 128] 144 128 9 [] [] rfl (by decide +kernel) (by decide +kernel) rfl (Nat.le_of_ble_eq_true rfl) rfl (by decide) (by decide +kernel) (by decide +kernel) (s_X10_goes hc19) ?_
    refine q_blk2 (pc2 := 53) (ls2 := [(7, .int 1), (6, .int 0), (4, .long (z6.2 128 35)), (2, .long (z6.2 128 34)), (0, .ref 128), (1, .int l1)]) (st2 := []) (h2 := (q_K0, z6.1, z6.2, q_R0)) [(.aload_n 0, 0, 0, 0, 0, 0), (.getfield 221, 0, 9, 34, 0, 0), (.lstore_n 2, 0, 0, 0, 0, 0), (.aload_n 0, 0, 0, 0, 0, 0), (.getfield 224, 0, 9, 35, 0, 0), (.lstore 4, 0, 0, 0, 0, 0), (.iconst 0, 0, 0, 0, 0, 0), (.istore 6, 0, 0, 0, 0, 0), (.iconst 1, 0, 0, 0, 1, 0), (.istore 7, 0, 0, 0, 0, 0)] (by decide +kernel) rfl rfl ⟨trivial, rfl, trivial, trivial, rfl, trivial, trivial, trivial, trivial, trivial, trivial⟩ ?_
    obtain ⟨⟨⟨w11, w12, w13, w14, z10⟩, tg21⟩, hl20, h⟩ := Option.bind_eq_some_iff.mp h
    dsimp only at h
    refine q_pick [4, 3, 2, 1, 0] rfl ?_
    refine q_lp_ok (P := fun s => q_Ex _ 147 53 [(0, .ref 128), (2, .long s.1), (4, .long s.2.1), (6, .int s.2.2.1), (7, .int s.2.2.2.1)] [] (q_K0, s.2.2.2.2.1, s.2.2.2.2.2, q_R0) _ _) (X := fun u s => (u = 0 → q_Ex _ 147 94 [(0, .ref 128), (2, .long s.1), (4, .long s.2.1), (6, .int s.2.2.1), (7, .int s.2.2.2.1)] [] (q_K0, s.2.2.2.2.1, s.2.2.2.2.2, q_R0) _ _)) (fun s s2 t hh k0 kx => b_X10_period_53 hh k0 (fun e => (kx 0 e) rfl)) hl20 ?_
    · intro e_tg21
      subst e_tg21
      rw [if_pos rfl] at h
      show q_Ex _ 147 94 [(0, .ref 128), (2, .long w11), (4, .long w12), (6, .int w13), (7, .int w14)] [] (q_K0, z10.1, z10.2, q_R0) _ _
      refine q_blk2 (pc2 := 96) (ls2 := [(0, .ref 128), (2, .long w11), (4, .long w12), (6, .int w13), (7, .int w14)]) (st2 := [.int w13]) (h2 := (q_K0, z10.1, z10.2, q_R0)) [(.iload 6, 0, 0, 0, 0, 0)] (by decide +kernel) rfl rfl ⟨trivial, trivial⟩ ?_
      cases h
      exact q_iret .int rfl rfl (by decide +kernel)
  · rw [if_pos c10_1] at h
    refine q_blk2 (pc2 := 15) (ls2 := [(0, .ref 128), (1, .int l1)]) (st2 := [.int 1, .ref 128]) (h2 := (q_K0, z2.1, z2.2, q_R0)) [(.aload_n 0, 0, 0, 0, 0, 0), (.iconst 1, 0, 0, 0, 1, 0)] (by decide +kernel) rfl rfl ⟨trivial, trivial, trivial⟩ ?_
    obtain ⟨⟨r15, z16⟩, hc22, h⟩ := Option.bind_eq_some_iff.mp h
    dsimp only at h
    refine q_cV1 (idx := 152) (v := .int r15) (h1 := (q_K0, z16.1, z16.2, q_R0)) [.int 1, .ref 128] 98 128 9 [.int 1] [] rfl (by decide +kernel) (by decide +kernel) rfl (Nat.le_of_ble_eq_true rfl) rfl (by decide) (by decide +kernel) (by decide +kernel) (s_X10_no hc22) ?_
    cases h
    exact q_iret .int rfl rfl (by decide +kernel)
