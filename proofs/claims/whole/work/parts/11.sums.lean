/-! pure functions of the methods, and that the methods do what they say (written by wip/whole/dec.py) -/
def T_X7_rootOf_33 (z : q_Z) (l0 : Int64) (l2 : Int64) (l4 : Int64) : Option ((Int64 × Int64 × Int64 × q_Z) × Nat) :=
  some ((l0, l2, l4 >>> (Int32.toInt64 1 &&& 63), z), 0)
set_option maxRecDepth 100000 in
set_option maxHeartbeats 4000000 in
theorem t_X7_rootOf_33 {z : q_Z} {l0 : Int64} {l2 : Int64} {l4 : Int64} {s2 : Int64 × Int64 × Int64 × q_Z} {t : Nat} {r : Option Value} {h2 : q_H} (h : T_X7_rootOf_33 z l0 l2 l4 = some (s2, t)) (k0 : t = 0 → q_Ex none 48 7 [(0, .long s2.1), (2, .long s2.2.1), (4, .long s2.2.2.1)] [] (q_K0, s2.2.2.2.1, s2.2.2.2.2, q_R0) r h2) (k1 : t = 1 → q_Ex none 48 42 [(0, .long s2.1), (2, .long s2.2.1), (4, .long s2.2.2.1)] [] (q_K0, s2.2.2.2.1, s2.2.2.2.2, q_R0) r h2) : q_Ex none 48 33 [(0, .long l0), (2, .long l2), (4, .long l4)] [] (q_K0, z.1, z.2, q_R0) r h2 := by
  unfold T_X7_rootOf_33 at h
  refine q_blk2 (pc2 := 39) (ls2 := [(4, .long (l4 >>> (Int32.toInt64 1 &&& 63))), (0, .long l0), (2, .long l2)]) (st2 := []) (h2 := (q_K0, z.1, z.2, q_R0)) [(.lload 4, 0, 0, 0, 0, 0), (.iconst 1, 0, 0, 0, 1, 0), (.lshr, 0, 0, 0, 0, 0), (.lstore 4, 0, 0, 0, 0, 0)] (by decide +kernel) rfl rfl ⟨trivial, trivial, trivial, trivial, trivial⟩ ?_
  refine q_goto (off := -32) (tgt := 7) (by decide +kernel) (by decide) ?_
  cases h
  refine q_pick [1, 2, 0] rfl ?_
  exact k0 rfl
def B_X7_rootOf_7 : Int64 × Int64 × Int64 × q_Z → Option ((Int64 × Int64 × Int64 × q_Z) × Nat) := fun (l0, l2, l4, z) =>
  if l4 ≤ (0 : Int64) then
    some ((l0, l2, l4, z), 1)
  else
    if l0 < ((l2 + l4) * (l2 + l4)) then
      T_X7_rootOf_33 z l0 l2 l4
    else
      T_X7_rootOf_33 z l0 (l2 + l4) l4
set_option maxRecDepth 100000 in
set_option maxHeartbeats 4000000 in
theorem b_X7_rootOf_7 {s s2 : Int64 × Int64 × Int64 × q_Z} {t : Nat} {r : Option Value} {h2 : q_H} (h : B_X7_rootOf_7 s = some (s2, t)) (k0 : t = 0 → q_Ex none 48 7 [(0, .long s2.1), (2, .long s2.2.1), (4, .long s2.2.2.1)] [] (q_K0, s2.2.2.2.1, s2.2.2.2.2, q_R0) r h2) (k1 : t = 1 → q_Ex none 48 42 [(0, .long s2.1), (2, .long s2.2.1), (4, .long s2.2.2.1)] [] (q_K0, s2.2.2.2.1, s2.2.2.2.2, q_R0) r h2) : q_Ex none 48 7 [(0, .long s.1), (2, .long s.2.1), (4, .long s.2.2.1)] [] (q_K0, s.2.2.2.1, s.2.2.2.2, q_R0) r h2 := by
  unfold B_X7_rootOf_7 at h
  obtain ⟨l0, l2, l4, z⟩ := s
  dsimp only at h
  show q_Ex none 48 7 [(0, .long l0), (2, .long l2), (4, .long l4)] [] (q_K0, z.1, z.2, q_R0) r h2
  refine q_blk2 (pc2 := 10) (ls2 := [(0, .long l0), (2, .long l2), (4, .long l4)]) (st2 := [.long 0, .long l4]) (h2 := (q_K0, z.1, z.2, q_R0)) [(.lload 4, 0, 0, 0, 0, 0), (.lconst 0, 0, 0, 0, 0, 0)] (by decide +kernel) rfl rfl ⟨trivial, trivial, trivial⟩ ?_
  refine q_lc_le (off := 31) (tgt := 42) (by decide +kernel) (by decide +kernel) (by decide) (fun c10_1 => ?_) (fun c10_1 => ?_)
  · rw [if_pos c10_1] at h
    cases h
    refine q_pick [0, 1, 2] rfl ?_
    exact k1 rfl
  · rw [if_neg c10_1] at h
    refine q_blk2 (pc2 := 24) (ls2 := [(0, .long l0), (2, .long l2), (4, .long l4)]) (st2 := [.long l0, .long ((l2 + l4) * (l2 + l4))]) (h2 := (q_K0, z.1, z.2, q_R0)) [(.lload_n 2, 0, 0, 0, 0, 0), (.lload 4, 0, 0, 0, 0, 0), (.ladd, 0, 0, 0, 0, 0), (.lload_n 2, 0, 0, 0, 0, 0), (.lload 4, 0, 0, 0, 0, 0), (.ladd, 0, 0, 0, 0, 0), (.lmul, 0, 0, 0, 0, 0), (.lload_n 0, 0, 0, 0, 0, 0)] (by decide +kernel) rfl rfl ⟨trivial, trivial, trivial, trivial, trivial, trivial, trivial, trivial, trivial⟩ ?_
    refine q_lc_gt (off := 8) (tgt := 33) (by decide +kernel) (by decide +kernel) (by decide) (fun c24_2 => ?_) (fun c24_2 => ?_)
    · rw [if_pos c24_2] at h
      refine q_pick [0, 1, 2] rfl ?_
      exact t_X7_rootOf_33 h k0 k1
    · rw [if_neg c24_2] at h
      refine q_blk2 (pc2 := 33) (ls2 := [(2, .long (l2 + l4)), (0, .long l0), (4, .long l4)]) (st2 := []) (h2 := (q_K0, z.1, z.2, q_R0)) [(.lload_n 2, 0, 0, 0, 0, 0), (.lload 4, 0, 0, 0, 0, 0), (.ladd, 0, 0, 0, 0, 0), (.lstore_n 2, 0, 0, 0, 0, 0)] (by decide +kernel) rfl rfl ⟨trivial, trivial, trivial, trivial, trivial⟩ ?_
      refine q_pick [1, 0, 2] rfl ?_
      exact t_X7_rootOf_33 h k0 k1
/-- RootForms$Sums.rootOf(J)J -/
def F_X7_rootOf (z : q_Z) (l0 : Int64) : Option (Int64 × q_Z) :=
  (q_lp (B_X7_rootOf_7) q_fu (l0, 0, 32768, z)).bind fun ((w2, w3, w4, z1), tg) =>
    if tg = 0 then
      some (w3, z1)
    else none
set_option maxRecDepth 100000 in
set_option maxHeartbeats 4000000 in
theorem s_X7_rootOf {z zR : q_Z} {l0 : Int64} {rv : Int64} (h : F_X7_rootOf z l0 = some (rv, zR)) : q_Ca 48 [.long l0] (q_K0, z.1, z.2, q_R0) (some (.long rv)) (q_K0, zR.1, zR.2, q_R0) := by
  refine q_Ca_of (by decide) (Nat.le_of_ble_eq_true rfl) ?_
  show q_Ex none 48 0 [(0, .long l0)] [] (q_K0, z.1, z.2, q_R0) _ _
  unfold F_X7_rootOf at h
  refine q_blk2 (pc2 := 7) (ls2 := [(4, .long 32768), (2, .long 0), (0, .long l0)]) (st2 := []) (h2 := (q_K0, z.1, z.2, q_R0)) [(.lconst 0, 0, 0, 0, 0, 0), (.lstore_n 2, 0, 0, 0, 0, 0), (.ldc2_w 9, 0, 0, 0, 0, 32768), (.lstore 4, 0, 0, 0, 0, 0)] (by decide +kernel) rfl rfl ⟨trivial, trivial, trivial, trivial, trivial⟩ ?_
  obtain ⟨⟨⟨w2, w3, w4, z1⟩, tg6⟩, hl5, h⟩ := Option.bind_eq_some_iff.mp h
  dsimp only at h
  refine q_pick [2, 1, 0] rfl ?_
  refine q_lp_ok (P := fun s => q_Ex _ 48 7 [(0, .long s.1), (2, .long s.2.1), (4, .long s.2.2.1)] [] (q_K0, s.2.2.2.1, s.2.2.2.2, q_R0) _ _) (X := fun u s => (u = 0 → q_Ex _ 48 42 [(0, .long s.1), (2, .long s.2.1), (4, .long s.2.2.1)] [] (q_K0, s.2.2.2.1, s.2.2.2.2, q_R0) _ _)) (fun s s2 t hh k0 kx => b_X7_rootOf_7 hh k0 (fun e => (kx 0 e) rfl)) hl5 ?_
  · intro e_tg6
    subst e_tg6
    rw [if_pos rfl] at h
    show q_Ex _ 48 42 [(0, .long w2), (2, .long w3), (4, .long w4)] [] (q_K0, z1.1, z1.2, q_R0) _ _
    refine q_blk2 (pc2 := 43) (ls2 := [(0, .long w2), (2, .long w3), (4, .long w4)]) (st2 := [.long w3]) (h2 := (q_K0, z1.1, z1.2, q_R0)) [(.lload_n 2, 0, 0, 0, 0, 0)] (by decide +kernel) rfl rfl ⟨trivial, trivial⟩ ?_
    cases h
    exact q_lret rfl (by decide +kernel)
/-- java/lang/Math.max(II)I -/
def F_J9_max_7cf53 (z : q_Z) (l0 : Int32) (l1 : Int32) : Option (Int32 × q_Z) :=
  if l0 < l1 then
    some (l1, z)
  else
    some (l0, z)
set_option maxRecDepth 100000 in
set_option maxHeartbeats 4000000 in
theorem s_J9_max_7cf53 {z zR : q_Z} {l0 : Int32} {l1 : Int32} {rv : Int32} (h : F_J9_max_7cf53 z l0 l1 = some (rv, zR)) : q_Ca 161 [.int l0, .int l1] (q_K0, z.1, z.2, q_R0) (some (.int rv)) (q_K0, zR.1, zR.2, q_R0) := by
  refine q_Ca_of (by decide) (Nat.le_of_ble_eq_true rfl) ?_
  show q_Ex none 161 0 [(0, .int l0), (1, .int l1)] [] (q_K0, z.1, z.2, q_R0) _ _
  unfold F_J9_max_7cf53 at h
  refine q_blk2 (pc2 := 2) (ls2 := [(0, .int l0), (1, .int l1)]) (st2 := [.int l1, .int l0]) (h2 := (q_K0, z.1, z.2, q_R0)) [(.iload_n 0, 0, 0, 0, 0, 0), (.iload_n 1, 0, 0, 0, 0, 0)] (by decide +kernel) rfl rfl ⟨trivial, trivial, trivial⟩ ?_
  refine q_ic_lt (off := 7) (tgt := 9) (by decide +kernel) (by decide) (fun c2_1 => ?_) (fun c2_1 => ?_)
  · rw [if_pos c2_1] at h
    refine q_blk2 (pc2 := 10) (ls2 := [(0, .int l0), (1, .int l1)]) (st2 := [.int l1]) (h2 := (q_K0, z.1, z.2, q_R0)) [(.iload_n 1, 0, 0, 0, 0, 0)] (by decide +kernel) rfl rfl ⟨trivial, trivial⟩ ?_
    cases h
    exact q_iret .int rfl rfl (by decide +kernel)
  · rw [if_neg c2_1] at h
    refine q_blk2 (pc2 := 6) (ls2 := [(0, .int l0), (1, .int l1)]) (st2 := [.int l0]) (h2 := (q_K0, z.1, z.2, q_R0)) [(.iload_n 0, 0, 0, 0, 0, 0)] (by decide +kernel) rfl rfl ⟨trivial, trivial⟩ ?_
    refine q_goto (off := 4) (tgt := 10) (by decide +kernel) (by decide) ?_
    cases h
    exact q_iret .int rfl rfl (by decide +kernel)
/-- java/lang/Math.abs(J)J -/
def F_J9_abs_067f4 (z : q_Z) (l0 : Int64) : Option (Int64 × q_Z) :=
  if (0 : Int64) ≤ l0 then
    some (l0, z)
  else
    some (-l0, z)
set_option maxRecDepth 100000 in
set_option maxHeartbeats 4000000 in
theorem s_J9_abs_067f4 {z zR : q_Z} {l0 : Int64} {rv : Int64} (h : F_J9_abs_067f4 z l0 = some (rv, zR)) : q_Ca 160 [.long l0] (q_K0, z.1, z.2, q_R0) (some (.long rv)) (q_K0, zR.1, zR.2, q_R0) := by
  refine q_Ca_of (by decide) (Nat.le_of_ble_eq_true rfl) ?_
  show q_Ex none 160 0 [(0, .long l0)] [] (q_K0, z.1, z.2, q_R0) _ _
  unfold F_J9_abs_067f4 at h
  refine q_blk2 (pc2 := 2) (ls2 := [(0, .long l0)]) (st2 := [.long 0, .long l0]) (h2 := (q_K0, z.1, z.2, q_R0)) [(.lload_n 0, 0, 0, 0, 0, 0), (.lconst 0, 0, 0, 0, 0, 0)] (by decide +kernel) rfl rfl ⟨trivial, trivial, trivial⟩ ?_
  refine q_lc_ge (off := 8) (tgt := 11) (by decide +kernel) (by decide +kernel) (by decide) (fun c2_1 => ?_) (fun c2_1 => ?_)
  · rw [if_pos c2_1] at h
    refine q_blk2 (pc2 := 12) (ls2 := [(0, .long l0)]) (st2 := [.long l0]) (h2 := (q_K0, z.1, z.2, q_R0)) [(.lload_n 0, 0, 0, 0, 0, 0)] (by decide +kernel) rfl rfl ⟨trivial, trivial⟩ ?_
    cases h
    exact q_lret rfl (by decide +kernel)
  · rw [if_neg c2_1] at h
    refine q_blk2 (pc2 := 8) (ls2 := [(0, .long l0)]) (st2 := [.long (-l0)]) (h2 := (q_K0, z.1, z.2, q_R0)) [(.lload_n 0, 0, 0, 0, 0, 0), (.lneg, 0, 0, 0, 0, 0)] (by decide +kernel) rfl rfl ⟨trivial, trivial, trivial⟩ ?_
    refine q_goto (off := 4) (tgt := 12) (by decide +kernel) (by decide) ?_
    cases h
    exact q_lret rfl (by decide +kernel)
def B_X7_commonDivisor_15 : Int64 × Int64 × Int32 × q_Z → Option ((Int64 × Int64 × Int32 × q_Z) × Nat) := fun (l4, l6, l8, z) =>
  if (100000 : Int32) ≤ l8 then
    some ((l4, l6, l8, z), 1)
  else
    if l6 = (0 : Int64) then
      some ((l4, l6, l8, z), 1)
    else
      if ¬ l6 = (0 : Int64) then
        some ((l6, l4 - l4 / l6 * l6, l8 + 1, z), 0)
      else none
set_option maxRecDepth 100000 in
set_option maxHeartbeats 4000000 in
theorem b_X7_commonDivisor_15 {s s2 : Int64 × Int64 × Int32 × q_Z} {t : Nat} {r : Option Value} {h2 : q_H} (h : B_X7_commonDivisor_15 s = some (s2, t)) (k0 : t = 0 → q_Ex none 50 15 [(4, .long s2.1), (6, .long s2.2.1), (8, .int s2.2.2.1)] [] (q_K0, s2.2.2.2.1, s2.2.2.2.2, q_R0) r h2) (k1 : t = 1 → q_Ex none 50 50 [(4, .long s2.1), (6, .long s2.2.1), (8, .int s2.2.2.1)] [] (q_K0, s2.2.2.2.1, s2.2.2.2.2, q_R0) r h2) : q_Ex none 50 15 [(4, .long s.1), (6, .long s.2.1), (8, .int s.2.2.1)] [] (q_K0, s.2.2.2.1, s.2.2.2.2, q_R0) r h2 := by
  unfold B_X7_commonDivisor_15 at h
  obtain ⟨l4, l6, l8, z⟩ := s
  dsimp only at h
  show q_Ex none 50 15 [(4, .long l4), (6, .long l6), (8, .int l8)] [] (q_K0, z.1, z.2, q_R0) r h2
  refine q_blk2 (pc2 := 19) (ls2 := [(4, .long l4), (6, .long l6), (8, .int l8)]) (st2 := [.int 100000, .int l8]) (h2 := (q_K0, z.1, z.2, q_R0)) [(.iload 8, 0, 0, 0, 0, 0), (.ldc 22, 0, 0, 0, 100000, 0)] (by decide +kernel) rfl rfl ⟨trivial, trivial, trivial⟩ ?_
  refine q_ic_ge (off := 31) (tgt := 50) (by decide +kernel) (by decide) (fun c19_1 => ?_) (fun c19_1 => ?_)
  · rw [if_pos c19_1] at h
    cases h
    refine q_pick [0, 1, 2] rfl ?_
    exact k1 rfl
  · rw [if_neg c19_1] at h
    refine q_blk2 (pc2 := 25) (ls2 := [(4, .long l4), (6, .long l6), (8, .int l8)]) (st2 := [.long 0, .long l6]) (h2 := (q_K0, z.1, z.2, q_R0)) [(.lload 6, 0, 0, 0, 0, 0), (.lconst 0, 0, 0, 0, 0, 0)] (by decide +kernel) rfl rfl ⟨trivial, trivial, trivial⟩ ?_
    refine q_lc_eq (off := 24) (tgt := 50) (by decide +kernel) (by decide +kernel) (by decide) (fun c25_2 => ?_) (fun c25_2 => ?_)
    · rw [if_pos c25_2] at h
      cases h
      refine q_pick [0, 1, 2] rfl ?_
      exact k1 rfl
    · rw [if_neg c25_2] at h
      have b5 : ¬ l6 = (0 : Int64) := by
        by_cases q : ¬ l6 = (0 : Int64)
        · exact q
        · rw [if_neg q] at h; cases h
      rw [if_pos b5] at h
      refine q_blk2 (pc2 := 47) (ls2 := [(8, .int (l8 + 1)), (6, .long (l4 - l4 / l6 * l6)), (4, .long l6), (9, .long (l4 - l4 / l6 * l6))]) (st2 := []) (h2 := (q_K0, z.1, z.2, q_R0)) [(.lload 4, 0, 0, 0, 0, 0), (.lload 6, 0, 0, 0, 0, 0), (.lrem, 0, 0, 0, 0, 0), (.lstore 9, 0, 0, 0, 0, 0), (.lload 6, 0, 0, 0, 0, 0), (.lstore 4, 0, 0, 0, 0, 0), (.lload 9, 0, 0, 0, 0, 0), (.lstore 6, 0, 0, 0, 0, 0), (.iinc 8 1, 0, 0, 0, 1, 0)] (by decide +kernel) rfl rfl ⟨trivial, trivial, b5, trivial, trivial, trivial, trivial, trivial, trivial, trivial⟩ ?_
      refine q_goto (off := -32) (tgt := 15) (by decide +kernel) (by decide) ?_
      cases h
      refine q_pick [2, 1, 0] rfl ?_
      exact k0 rfl
def T_X7_commonDivisor_50 (z : q_Z) (l4 : Int64) : Option (Int64 × q_Z) :=
  some (l4, z)
set_option maxRecDepth 100000 in
set_option maxHeartbeats 4000000 in
theorem t_X7_commonDivisor_50 {z zR : q_Z} {l4 : Int64} {rv : Int64} (h : T_X7_commonDivisor_50 z l4 = some (rv, zR)) : q_Ex none 50 50 [(4, .long l4)] [] (q_K0, z.1, z.2, q_R0) (some (.long rv)) (q_K0, zR.1, zR.2, q_R0) := by
  unfold T_X7_commonDivisor_50 at h
  refine q_blk2 (pc2 := 52) (ls2 := [(4, .long l4)]) (st2 := [.long l4]) (h2 := (q_K0, z.1, z.2, q_R0)) [(.lload 4, 0, 0, 0, 0, 0)] (by decide +kernel) rfl rfl ⟨trivial, trivial⟩ ?_
  cases h
  exact q_lret rfl (by decide +kernel)
/-- RootForms$Sums.commonDivisor(JJ)J -/
def F_X7_commonDivisor (z : q_Z) (l0 : Int64) (l2 : Int64) : Option (Int64 × q_Z) :=
  (F_J9_abs_067f4 z l0).bind fun (r1, z2) =>
    (F_J9_abs_067f4 z2 l2).bind fun (r3, z4) =>
      (q_lp (B_X7_commonDivisor_15) q_fu (r1, r3, 0, z4)).bind fun ((w7, w8, w9, z6), tg) =>
        if tg = 0 then
          T_X7_commonDivisor_50 z6 w7
        else none
set_option maxRecDepth 100000 in
set_option maxHeartbeats 4000000 in
theorem s_X7_commonDivisor {z zR : q_Z} {l0 : Int64} {l2 : Int64} {rv : Int64} (h : F_X7_commonDivisor z l0 l2 = some (rv, zR)) : q_Ca 50 [.long l0, .long l2] (q_K0, z.1, z.2, q_R0) (some (.long rv)) (q_K0, zR.1, zR.2, q_R0) := by
  refine q_Ca_of (by decide) (Nat.le_of_ble_eq_true rfl) ?_
  show q_Ex none 50 0 [(0, .long l0), (2, .long l2)] [] (q_K0, z.1, z.2, q_R0) _ _
  unfold F_X7_commonDivisor at h
  refine q_blk2 (pc2 := 1) (ls2 := [(0, .long l0), (2, .long l2)]) (st2 := [.long l0]) (h2 := (q_K0, z.1, z.2, q_R0)) [(.lload_n 0, 0, 0, 0, 0, 0)] (by decide +kernel) rfl rfl ⟨trivial, trivial⟩ ?_
  obtain ⟨⟨r1, z2⟩, hc10, h⟩ := Option.bind_eq_some_iff.mp h
  dsimp only at h
  refine q_cS1 (idx := 17) (v := .long r1) (h1 := (q_K0, z2.1, z2.2, q_R0)) [.long l0] 160 [.long l0] [] rfl (by decide +kernel) (by decide +kernel) rfl (Nat.le_of_ble_eq_true rfl) (by decide +kernel) (s_J9_abs_067f4 hc10) ?_
  refine q_blk2 (pc2 := 7) (ls2 := [(4, .long r1), (0, .long l0), (2, .long l2)]) (st2 := [.long l2]) (h2 := (q_K0, z2.1, z2.2, q_R0)) [(.lstore 4, 0, 0, 0, 0, 0), (.lload_n 2, 0, 0, 0, 0, 0)] (by decide +kernel) rfl rfl ⟨trivial, trivial, trivial⟩ ?_
  obtain ⟨⟨r3, z4⟩, hc11, h⟩ := Option.bind_eq_some_iff.mp h
  dsimp only at h
  refine q_cS1 (idx := 17) (v := .long r3) (h1 := (q_K0, z4.1, z4.2, q_R0)) [.long l2] 160 [.long l2] [] rfl (by decide +kernel) (by decide +kernel) rfl (Nat.le_of_ble_eq_true rfl) (by decide +kernel) (s_J9_abs_067f4 hc11) ?_
  refine q_blk2 (pc2 := 15) (ls2 := [(8, .int 0), (6, .long r3), (4, .long r1), (0, .long l0), (2, .long l2)]) (st2 := []) (h2 := (q_K0, z4.1, z4.2, q_R0)) [(.lstore 6, 0, 0, 0, 0, 0), (.iconst 0, 0, 0, 0, 0, 0), (.istore 8, 0, 0, 0, 0, 0)] (by decide +kernel) rfl rfl ⟨trivial, trivial, trivial, trivial⟩ ?_
  obtain ⟨⟨⟨w7, w8, w9, z6⟩, tg13⟩, hl12, h⟩ := Option.bind_eq_some_iff.mp h
  dsimp only at h
  refine q_pick [2, 1, 0] rfl ?_
  refine q_lp_ok (P := fun s => q_Ex _ 50 15 [(4, .long s.1), (6, .long s.2.1), (8, .int s.2.2.1)] [] (q_K0, s.2.2.2.1, s.2.2.2.2, q_R0) _ _) (X := fun u s => (u = 0 → q_Ex _ 50 50 [(4, .long s.1), (6, .long s.2.1), (8, .int s.2.2.1)] [] (q_K0, s.2.2.2.1, s.2.2.2.2, q_R0) _ _)) (fun s s2 t hh k0 kx => b_X7_commonDivisor_15 hh k0 (fun e => (kx 0 e) rfl)) hl12 ?_
  · intro e_tg13
    subst e_tg13
    rw [if_pos rfl] at h
    show q_Ex _ 50 50 [(4, .long w7), (6, .long w8), (8, .int w9)] [] (q_K0, z6.1, z6.2, q_R0) _ _
    refine q_pick [0] rfl ?_
    exact t_X7_commonDivisor_50 h
def T_J9_floorMod_f86c9_25 (z : q_Z) (l4 : Int64) : Option (Int64 × q_Z) :=
  some (l4, z)
set_option maxRecDepth 100000 in
set_option maxHeartbeats 4000000 in
theorem t_J9_floorMod_f86c9_25 {z zR : q_Z} {l4 : Int64} {rv : Int64} (h : T_J9_floorMod_f86c9_25 z l4 = some (rv, zR)) : q_Ex none 158 25 [(4, .long l4)] [] (q_K0, z.1, z.2, q_R0) (some (.long rv)) (q_K0, zR.1, zR.2, q_R0) := by
  unfold T_J9_floorMod_f86c9_25 at h
  refine q_blk2 (pc2 := 27) (ls2 := [(4, .long l4)]) (st2 := [.long l4]) (h2 := (q_K0, z.1, z.2, q_R0)) [(.lload 4, 0, 0, 0, 0, 0)] (by decide +kernel) rfl rfl ⟨trivial, trivial⟩ ?_
  cases h
  exact q_lret rfl (by decide +kernel)
/-- java/lang/Math.floorMod(JJ)J -/
def F_J9_floorMod_f86c9 (z : q_Z) (l0 : Int64) (l2 : Int64) : Option (Int64 × q_Z) :=
  if ¬ l2 = (0 : Int64) then
    if (0 : Int64) ≤ (l0 ^^^ l2) then
      T_J9_floorMod_f86c9_25 z (l0 - l0 / l2 * l2)
    else
      if (l0 - l0 / l2 * l2) = (0 : Int64) then
        T_J9_floorMod_f86c9_25 z (l0 - l0 / l2 * l2)
      else
        some ((l0 - l0 / l2 * l2) + l2, z)
  else none
set_option maxRecDepth 100000 in
set_option maxHeartbeats 4000000 in
theorem s_J9_floorMod_f86c9 {z zR : q_Z} {l0 : Int64} {l2 : Int64} {rv : Int64} (h : F_J9_floorMod_f86c9 z l0 l2 = some (rv, zR)) : q_Ca 158 [.long l0, .long l2] (q_K0, z.1, z.2, q_R0) (some (.long rv)) (q_K0, zR.1, zR.2, q_R0) := by
  refine q_Ca_of (by decide) (Nat.le_of_ble_eq_true rfl) ?_
  show q_Ex none 158 0 [(0, .long l0), (2, .long l2)] [] (q_K0, z.1, z.2, q_R0) _ _
  unfold F_J9_floorMod_f86c9 at h
  have b1 : ¬ l2 = (0 : Int64) := by
    by_cases q : ¬ l2 = (0 : Int64)
    · exact q
    · rw [if_neg q] at h; cases h
  rw [if_pos b1] at h
  refine q_blk2 (pc2 := 9) (ls2 := [(4, .long (l0 - l0 / l2 * l2)), (0, .long l0), (2, .long l2)]) (st2 := [.long 0, .long (l0 ^^^ l2)]) (h2 := (q_K0, z.1, z.2, q_R0)) [(.lload_n 0, 0, 0, 0, 0, 0), (.lload_n 2, 0, 0, 0, 0, 0), (.lrem, 0, 0, 0, 0, 0), (.lstore 4, 0, 0, 0, 0, 0), (.lload_n 0, 0, 0, 0, 0, 0), (.lload_n 2, 0, 0, 0, 0, 0), (.lxor, 0, 0, 0, 0, 0), (.lconst 0, 0, 0, 0, 0, 0)] (by decide +kernel) rfl rfl ⟨trivial, trivial, b1, trivial, trivial, trivial, trivial, trivial, trivial⟩ ?_
  refine q_lc_ge (off := 15) (tgt := 25) (by decide +kernel) (by decide +kernel) (by decide) (fun c9_1 => ?_) (fun c9_1 => ?_)
  · rw [if_pos c9_1] at h
    refine q_pick [0] rfl ?_
    exact t_J9_floorMod_f86c9_25 h
  · rw [if_neg c9_1] at h
    refine q_blk2 (pc2 := 16) (ls2 := [(4, .long (l0 - l0 / l2 * l2)), (0, .long l0), (2, .long l2)]) (st2 := [.long 0, .long (l0 - l0 / l2 * l2)]) (h2 := (q_K0, z.1, z.2, q_R0)) [(.lload 4, 0, 0, 0, 0, 0), (.lconst 0, 0, 0, 0, 0, 0)] (by decide +kernel) rfl rfl ⟨trivial, trivial, trivial⟩ ?_
    refine q_lc_eq (off := 8) (tgt := 25) (by decide +kernel) (by decide +kernel) (by decide) (fun c16_2 => ?_) (fun c16_2 => ?_)
    · rw [if_pos c16_2] at h
      refine q_pick [0] rfl ?_
      exact t_J9_floorMod_f86c9_25 h
    · rw [if_neg c16_2] at h
      refine q_blk2 (pc2 := 24) (ls2 := [(4, .long (l0 - l0 / l2 * l2)), (0, .long l0), (2, .long l2)]) (st2 := [.long ((l0 - l0 / l2 * l2) + l2)]) (h2 := (q_K0, z.1, z.2, q_R0)) [(.lload 4, 0, 0, 0, 0, 0), (.lload_n 2, 0, 0, 0, 0, 0), (.ladd, 0, 0, 0, 0, 0)] (by decide +kernel) rfl rfl ⟨trivial, trivial, trivial, trivial⟩ ?_
      cases h
      exact q_lret rfl (by decide +kernel)
/-- java/lang/Math.min(II)I -/
def F_J9_min_7cf53 (z : q_Z) (l0 : Int32) (l1 : Int32) : Option (Int32 × q_Z) :=
  if l1 < l0 then
    some (l1, z)
  else
    some (l0, z)
set_option maxRecDepth 100000 in
set_option maxHeartbeats 4000000 in
theorem s_J9_min_7cf53 {z zR : q_Z} {l0 : Int32} {l1 : Int32} {rv : Int32} (h : F_J9_min_7cf53 z l0 l1 = some (rv, zR)) : q_Ca 162 [.int l0, .int l1] (q_K0, z.1, z.2, q_R0) (some (.int rv)) (q_K0, zR.1, zR.2, q_R0) := by
  refine q_Ca_of (by decide) (Nat.le_of_ble_eq_true rfl) ?_
  show q_Ex none 162 0 [(0, .int l0), (1, .int l1)] [] (q_K0, z.1, z.2, q_R0) _ _
  unfold F_J9_min_7cf53 at h
  refine q_blk2 (pc2 := 2) (ls2 := [(0, .int l0), (1, .int l1)]) (st2 := [.int l1, .int l0]) (h2 := (q_K0, z.1, z.2, q_R0)) [(.iload_n 0, 0, 0, 0, 0, 0), (.iload_n 1, 0, 0, 0, 0, 0)] (by decide +kernel) rfl rfl ⟨trivial, trivial, trivial⟩ ?_
  refine q_ic_gt (off := 7) (tgt := 9) (by decide +kernel) (by decide) (fun c2_1 => ?_) (fun c2_1 => ?_)
  · rw [if_pos c2_1] at h
    refine q_blk2 (pc2 := 10) (ls2 := [(0, .int l0), (1, .int l1)]) (st2 := [.int l1]) (h2 := (q_K0, z.1, z.2, q_R0)) [(.iload_n 1, 0, 0, 0, 0, 0)] (by decide +kernel) rfl rfl ⟨trivial, trivial⟩ ?_
    cases h
    exact q_iret .int rfl rfl (by decide +kernel)
  · rw [if_neg c2_1] at h
    refine q_blk2 (pc2 := 6) (ls2 := [(0, .int l0), (1, .int l1)]) (st2 := [.int l0]) (h2 := (q_K0, z.1, z.2, q_R0)) [(.iload_n 0, 0, 0, 0, 0, 0)] (by decide +kernel) rfl rfl ⟨trivial, trivial⟩ ?_
    refine q_goto (off := 4) (tgt := 10) (by decide +kernel) (by decide) ?_
    cases h
    exact q_iret .int rfl rfl (by decide +kernel)
def B_X7_factorToDivisor_27 : Int64 × Int64 × Int64 × Int64 × Int32 × q_Z → Option ((Int64 × Int64 × Int64 × Int64 × Int32 × q_Z) × Nat) := fun (l4, l6, l8, l10, l12, z) =>
  if (100000 : Int32) ≤ l12 then
    some ((l4, l6, l8, l10, l12, z), 1)
  else
    if l6 = (0 : Int64) then
      some ((l4, l6, l8, l10, l12, z), 1)
    else
      if ¬ l6 = (0 : Int64) then
        some ((l6, l4 - ((l4 / l6) * l6), l10, l8 - ((l4 / l6) * l10), l12 + 1, z), 0)
      else none
set_option maxRecDepth 100000 in
set_option maxHeartbeats 4000000 in
theorem b_X7_factorToDivisor_27 {s s2 : Int64 × Int64 × Int64 × Int64 × Int32 × q_Z} {t : Nat} {r : Option Value} {h2 : q_H} (h : B_X7_factorToDivisor_27 s = some (s2, t)) (k0 : t = 0 → q_Ex none 51 27 [(4, .long s2.1), (6, .long s2.2.1), (8, .long s2.2.2.1), (10, .long s2.2.2.2.1), (12, .int s2.2.2.2.2.1)] [] (q_K0, s2.2.2.2.2.2.1, s2.2.2.2.2.2.2, q_R0) r h2) (k1 : t = 1 → q_Ex none 51 90 [(4, .long s2.1), (6, .long s2.2.1), (8, .long s2.2.2.1), (10, .long s2.2.2.2.1), (12, .int s2.2.2.2.2.1)] [] (q_K0, s2.2.2.2.2.2.1, s2.2.2.2.2.2.2, q_R0) r h2) : q_Ex none 51 27 [(4, .long s.1), (6, .long s.2.1), (8, .long s.2.2.1), (10, .long s.2.2.2.1), (12, .int s.2.2.2.2.1)] [] (q_K0, s.2.2.2.2.2.1, s.2.2.2.2.2.2, q_R0) r h2 := by
  unfold B_X7_factorToDivisor_27 at h
  obtain ⟨l4, l6, l8, l10, l12, z⟩ := s
  dsimp only at h
  show q_Ex none 51 27 [(4, .long l4), (6, .long l6), (8, .long l8), (10, .long l10), (12, .int l12)] [] (q_K0, z.1, z.2, q_R0) r h2
  refine q_blk2 (pc2 := 31) (ls2 := [(4, .long l4), (6, .long l6), (8, .long l8), (10, .long l10), (12, .int l12)]) (st2 := [.int 100000, .int l12]) (h2 := (q_K0, z.1, z.2, q_R0)) [(.iload 12, 0, 0, 0, 0, 0), (.ldc 22, 0, 0, 0, 100000, 0)] (by decide +kernel) rfl rfl ⟨trivial, trivial, trivial⟩ ?_
  refine q_ic_ge (off := 59) (tgt := 90) (by decide +kernel) (by decide) (fun c31_1 => ?_) (fun c31_1 => ?_)
  · rw [if_pos c31_1] at h
    cases h
    refine q_pick [0, 1, 2, 3, 4] rfl ?_
    exact k1 rfl
  · rw [if_neg c31_1] at h
    refine q_blk2 (pc2 := 37) (ls2 := [(4, .long l4), (6, .long l6), (8, .long l8), (10, .long l10), (12, .int l12)]) (st2 := [.long 0, .long l6]) (h2 := (q_K0, z.1, z.2, q_R0)) [(.lload 6, 0, 0, 0, 0, 0), (.lconst 0, 0, 0, 0, 0, 0)] (by decide +kernel) rfl rfl ⟨trivial, trivial, trivial⟩ ?_
    refine q_lc_eq (off := 52) (tgt := 90) (by decide +kernel) (by decide +kernel) (by decide) (fun c37_2 => ?_) (fun c37_2 => ?_)
    · rw [if_pos c37_2] at h
      cases h
      refine q_pick [0, 1, 2, 3, 4] rfl ?_
      exact k1 rfl
    · rw [if_neg c37_2] at h
      have b3 : ¬ l6 = (0 : Int64) := by
        by_cases q : ¬ l6 = (0 : Int64)
        · exact q
        · rw [if_neg q] at h; cases h
      rw [if_pos b3] at h
      refine q_blk2 (pc2 := 87) (ls2 := [(12, .int (l12 + 1)), (10, .long (l8 - ((l4 / l6) * l10))), (8, .long l10), (6, .long (l4 - ((l4 / l6) * l6))), (4, .long l6), (17, .long (l8 - ((l4 / l6) * l10))), (15, .long (l4 - ((l4 / l6) * l6))), (13, .long (l4 / l6))]) (st2 := []) (h2 := (q_K0, z.1, z.2, q_R0)) [(.lload 4, 0, 0, 0, 0, 0), (.lload 6, 0, 0, 0, 0, 0), (.ldiv, 0, 0, 0, 0, 0), (.lstore 13, 0, 0, 0, 0, 0), (.lload 4, 0, 0, 0, 0, 0), (.lload 13, 0, 0, 0, 0, 0), (.lload 6, 0, 0, 0, 0, 0), (.lmul, 0, 0, 0, 0, 0), (.lsub, 0, 0, 0, 0, 0), (.lstore 15, 0, 0, 0, 0, 0), (.lload 8, 0, 0, 0, 0, 0), (.lload 13, 0, 0, 0, 0, 0), (.lload 10, 0, 0, 0, 0, 0), (.lmul, 0, 0, 0, 0, 0), (.lsub, 0, 0, 0, 0, 0), (.lstore 17, 0, 0, 0, 0, 0), (.lload 6, 0, 0, 0, 0, 0), (.lstore 4, 0, 0, 0, 0, 0), (.lload 15, 0, 0, 0, 0, 0), (.lstore 6, 0, 0, 0, 0, 0), (.lload 10, 0, 0, 0, 0, 0), (.lstore 8, 0, 0, 0, 0, 0), (.lload 17, 0, 0, 0, 0, 0), (.lstore 10, 0, 0, 0, 0, 0), (.iinc 12 1, 0, 0, 0, 1, 0)] (by decide +kernel) rfl rfl ⟨trivial, trivial, b3, trivial, trivial, trivial, trivial, trivial, trivial, trivial, trivial, trivial, trivial, trivial, trivial, trivial, trivial, trivial, trivial, trivial, trivial, trivial, trivial, trivial, trivial, trivial⟩ ?_
      refine q_goto (off := -60) (tgt := 27) (by decide +kernel) (by decide) ?_
      cases h
      refine q_pick [4, 3, 2, 1, 0] rfl ?_
      exact k0 rfl
def T_X7_factorToDivisor_90 (z : q_Z) (l8 : Int64) : Option (Int64 × q_Z) :=
  some (l8, z)
set_option maxRecDepth 100000 in
set_option maxHeartbeats 4000000 in
theorem t_X7_factorToDivisor_90 {z zR : q_Z} {l8 : Int64} {rv : Int64} (h : T_X7_factorToDivisor_90 z l8 = some (rv, zR)) : q_Ex none 51 90 [(8, .long l8)] [] (q_K0, z.1, z.2, q_R0) (some (.long rv)) (q_K0, zR.1, zR.2, q_R0) := by
  unfold T_X7_factorToDivisor_90 at h
  refine q_blk2 (pc2 := 92) (ls2 := [(8, .long l8)]) (st2 := [.long l8]) (h2 := (q_K0, z.1, z.2, q_R0)) [(.lload 8, 0, 0, 0, 0, 0)] (by decide +kernel) rfl rfl ⟨trivial, trivial⟩ ?_
  cases h
  exact q_lret rfl (by decide +kernel)
/-- RootForms$Sums.factorToDivisor(JJ)J -/
def F_X7_factorToDivisor (z : q_Z) (l0 : Int64) (l2 : Int64) : Option (Int64 × q_Z) :=
  if (0 : Int64) < l2 then
    (F_J9_floorMod_f86c9 z l0 l2).bind fun (r1, z2) =>
      (q_lp (B_X7_factorToDivisor_27) q_fu (l2, r1, 0, 1, 0, z2)).bind fun ((w5, w6, w7, w8, w9, z4), tg) =>
        if tg = 0 then
          T_X7_factorToDivisor_90 z4 w7
        else none
  else
    some (0, z)
set_option maxRecDepth 100000 in
set_option maxHeartbeats 4000000 in
theorem s_X7_factorToDivisor {z zR : q_Z} {l0 : Int64} {l2 : Int64} {rv : Int64} (h : F_X7_factorToDivisor z l0 l2 = some (rv, zR)) : q_Ca 51 [.long l0, .long l2] (q_K0, z.1, z.2, q_R0) (some (.long rv)) (q_K0, zR.1, zR.2, q_R0) := by
  refine q_Ca_of (by decide) (Nat.le_of_ble_eq_true rfl) ?_
  show q_Ex none 51 0 [(0, .long l0), (2, .long l2)] [] (q_K0, z.1, z.2, q_R0) _ _
  unfold F_X7_factorToDivisor at h
  refine q_blk2 (pc2 := 2) (ls2 := [(0, .long l0), (2, .long l2)]) (st2 := [.long 0, .long l2]) (h2 := (q_K0, z.1, z.2, q_R0)) [(.lload_n 2, 0, 0, 0, 0, 0), (.lconst 0, 0, 0, 0, 0, 0)] (by decide +kernel) rfl rfl ⟨trivial, trivial, trivial⟩ ?_
  refine q_lc_gt (off := 5) (tgt := 8) (by decide +kernel) (by decide +kernel) (by decide) (fun c2_1 => ?_) (fun c2_1 => ?_)
  · rw [if_pos c2_1] at h
    refine q_blk2 (pc2 := 13) (ls2 := [(4, .long l2), (0, .long l0), (2, .long l2)]) (st2 := [.long l2, .long l0]) (h2 := (q_K0, z.1, z.2, q_R0)) [(.lload_n 2, 0, 0, 0, 0, 0), (.lstore 4, 0, 0, 0, 0, 0), (.lload_n 0, 0, 0, 0, 0, 0), (.lload_n 2, 0, 0, 0, 0, 0)] (by decide +kernel) rfl rfl ⟨trivial, trivial, trivial, trivial, trivial⟩ ?_
    obtain ⟨⟨r1, z2⟩, hc10, h⟩ := Option.bind_eq_some_iff.mp h
    dsimp only at h
    refine q_cS1 (idx := 23) (v := .long r1) (h1 := (q_K0, z2.1, z2.2, q_R0)) [.long l2, .long l0] 158 [.long l0, .long l2] [] rfl (by decide +kernel) (by decide +kernel) rfl (Nat.le_of_ble_eq_true rfl) (by decide +kernel) (s_J9_floorMod_f86c9 hc10) ?_
    refine q_blk2 (pc2 := 27) (ls2 := [(12, .int 0), (10, .long 1), (8, .long 0), (6, .long r1), (4, .long l2), (0, .long l0), (2, .long l2)]) (st2 := []) (h2 := (q_K0, z2.1, z2.2, q_R0)) [(.lstore 6, 0, 0, 0, 0, 0), (.lconst 0, 0, 0, 0, 0, 0), (.lstore 8, 0, 0, 0, 0, 0), (.lconst 1, 0, 0, 0, 0, 1), (.lstore 10, 0, 0, 0, 0, 0), (.iconst 0, 0, 0, 0, 0, 0), (.istore 12, 0, 0, 0, 0, 0)] (by decide +kernel) rfl rfl ⟨trivial, trivial, trivial, trivial, trivial, trivial, trivial, trivial⟩ ?_
    obtain ⟨⟨⟨w5, w6, w7, w8, w9, z4⟩, tg12⟩, hl11, h⟩ := Option.bind_eq_some_iff.mp h
    dsimp only at h
    refine q_pick [4, 3, 2, 1, 0] rfl ?_
    refine q_lp_ok (P := fun s => q_Ex _ 51 27 [(4, .long s.1), (6, .long s.2.1), (8, .long s.2.2.1), (10, .long s.2.2.2.1), (12, .int s.2.2.2.2.1)] [] (q_K0, s.2.2.2.2.2.1, s.2.2.2.2.2.2, q_R0) _ _) (X := fun u s => (u = 0 → q_Ex _ 51 90 [(4, .long s.1), (6, .long s.2.1), (8, .long s.2.2.1), (10, .long s.2.2.2.1), (12, .int s.2.2.2.2.1)] [] (q_K0, s.2.2.2.2.2.1, s.2.2.2.2.2.2, q_R0) _ _)) (fun s s2 t hh k0 kx => b_X7_factorToDivisor_27 hh k0 (fun e => (kx 0 e) rfl)) hl11 ?_
    · intro e_tg12
      subst e_tg12
      rw [if_pos rfl] at h
      show q_Ex _ 51 90 [(4, .long w5), (6, .long w6), (8, .long w7), (10, .long w8), (12, .int w9)] [] (q_K0, z4.1, z4.2, q_R0) _ _
      refine q_pick [2] rfl ?_
      exact t_X7_factorToDivisor_90 h
  · rw [if_neg c2_1] at h
    refine q_blk2 (pc2 := 7) (ls2 := [(0, .long l0), (2, .long l2)]) (st2 := [.long 0]) (h2 := (q_K0, z.1, z.2, q_R0)) [(.lconst 0, 0, 0, 0, 0, 0)] (by decide +kernel) rfl rfl ⟨trivial, trivial⟩ ?_
    cases h
    exact q_lret rfl (by decide +kernel)
def T_J9_floorMod_7cf53_18 (z : q_Z) (l2 : Int32) : Option (Int32 × q_Z) :=
  some (l2, z)
set_option maxRecDepth 100000 in
set_option maxHeartbeats 4000000 in
theorem t_J9_floorMod_7cf53_18 {z zR : q_Z} {l2 : Int32} {rv : Int32} (h : T_J9_floorMod_7cf53_18 z l2 = some (rv, zR)) : q_Ex none 157 18 [(2, .int l2)] [] (q_K0, z.1, z.2, q_R0) (some (.int rv)) (q_K0, zR.1, zR.2, q_R0) := by
  unfold T_J9_floorMod_7cf53_18 at h
  refine q_blk2 (pc2 := 19) (ls2 := [(2, .int l2)]) (st2 := [.int l2]) (h2 := (q_K0, z.1, z.2, q_R0)) [(.iload_n 2, 0, 0, 0, 0, 0)] (by decide +kernel) rfl rfl ⟨trivial, trivial⟩ ?_
  cases h
  exact q_iret .int rfl rfl (by decide +kernel)
/-- java/lang/Math.floorMod(II)I -/
def F_J9_floorMod_7cf53 (z : q_Z) (l0 : Int32) (l1 : Int32) : Option (Int32 × q_Z) :=
  if ¬ l1 = (0 : Int32) then
    if (0 : Int32) ≤ (l0 ^^^ l1) then
      T_J9_floorMod_7cf53_18 z (l0 - l0 / l1 * l1)
    else
      if (l0 - l0 / l1 * l1) = (0 : Int32) then
        T_J9_floorMod_7cf53_18 z (l0 - l0 / l1 * l1)
      else
        some ((l0 - l0 / l1 * l1) + l1, z)
  else none
set_option maxRecDepth 100000 in
set_option maxHeartbeats 4000000 in
theorem s_J9_floorMod_7cf53 {z zR : q_Z} {l0 : Int32} {l1 : Int32} {rv : Int32} (h : F_J9_floorMod_7cf53 z l0 l1 = some (rv, zR)) : q_Ca 157 [.int l0, .int l1] (q_K0, z.1, z.2, q_R0) (some (.int rv)) (q_K0, zR.1, zR.2, q_R0) := by
  refine q_Ca_of (by decide) (Nat.le_of_ble_eq_true rfl) ?_
  show q_Ex none 157 0 [(0, .int l0), (1, .int l1)] [] (q_K0, z.1, z.2, q_R0) _ _
  unfold F_J9_floorMod_7cf53 at h
  have b1 : ¬ l1 = (0 : Int32) := by
    by_cases q : ¬ l1 = (0 : Int32)
    · exact q
    · rw [if_neg q] at h; cases h
  rw [if_pos b1] at h
  refine q_blk2 (pc2 := 7) (ls2 := [(2, .int (l0 - l0 / l1 * l1)), (0, .int l0), (1, .int l1)]) (st2 := [.int (l0 ^^^ l1)]) (h2 := (q_K0, z.1, z.2, q_R0)) [(.iload_n 0, 0, 0, 0, 0, 0), (.iload_n 1, 0, 0, 0, 0, 0), (.irem, 0, 0, 0, 0, 0), (.istore_n 2, 0, 0, 0, 0, 0), (.iload_n 0, 0, 0, 0, 0, 0), (.iload_n 1, 0, 0, 0, 0, 0), (.ixor, 0, 0, 0, 0, 0)] (by decide +kernel) rfl rfl ⟨trivial, trivial, b1, trivial, trivial, trivial, trivial, trivial⟩ ?_
  refine q_if_ge (off := 11) (tgt := 18) (by decide +kernel) (by decide) (fun c7_1 => ?_) (fun c7_1 => ?_)
  · rw [if_pos c7_1] at h
    refine q_pick [0] rfl ?_
    exact t_J9_floorMod_7cf53_18 h
  · rw [if_neg c7_1] at h
    refine q_blk2 (pc2 := 11) (ls2 := [(2, .int (l0 - l0 / l1 * l1)), (0, .int l0), (1, .int l1)]) (st2 := [.int (l0 - l0 / l1 * l1)]) (h2 := (q_K0, z.1, z.2, q_R0)) [(.iload_n 2, 0, 0, 0, 0, 0)] (by decide +kernel) rfl rfl ⟨trivial, trivial⟩ ?_
    refine q_if_eq (off := 7) (tgt := 18) (by decide +kernel) (by decide) (fun c11_2 => ?_) (fun c11_2 => ?_)
    · rw [if_pos c11_2] at h
      refine q_pick [0] rfl ?_
      exact t_J9_floorMod_7cf53_18 h
    · rw [if_neg c11_2] at h
      refine q_blk2 (pc2 := 17) (ls2 := [(2, .int (l0 - l0 / l1 * l1)), (0, .int l0), (1, .int l1)]) (st2 := [.int ((l0 - l0 / l1 * l1) + l1)]) (h2 := (q_K0, z.1, z.2, q_R0)) [(.iload_n 2, 0, 0, 0, 0, 0), (.iload_n 1, 0, 0, 0, 0, 0), (.iadd, 0, 0, 0, 0, 0)] (by decide +kernel) rfl rfl ⟨trivial, trivial, trivial, trivial⟩ ?_
      cases h
      exact q_iret .int rfl rfl (by decide +kernel)
/-- RootForms$Sums.isSquare(J)Z -/
def F_X7_isSquare (z : q_Z) (l0 : Int64) : Option (Int32 × q_Z) :=
  (F_X7_rootOf z l0).bind fun (r1, z2) =>
    if (r1 * r1) = l0 then
      some (1, z2)
    else
      some (0, z2)
set_option maxRecDepth 100000 in
set_option maxHeartbeats 4000000 in
theorem s_X7_isSquare {z zR : q_Z} {l0 : Int64} {rv : Int32} (h : F_X7_isSquare z l0 = some (rv, zR)) : q_Ca 49 [.long l0] (q_K0, z.1, z.2, q_R0) (some (.int rv)) (q_K0, zR.1, zR.2, q_R0) := by
  refine q_Ca_of (by decide) (Nat.le_of_ble_eq_true rfl) ?_
  show q_Ex none 49 0 [(0, .long l0)] [] (q_K0, z.1, z.2, q_R0) _ _
  unfold F_X7_isSquare at h
  refine q_blk2 (pc2 := 1) (ls2 := [(0, .long l0)]) (st2 := [.long l0]) (h2 := (q_K0, z.1, z.2, q_R0)) [(.lload_n 0, 0, 0, 0, 0, 0)] (by decide +kernel) rfl rfl ⟨trivial, trivial⟩ ?_
  obtain ⟨⟨r1, z2⟩, hc3, h⟩ := Option.bind_eq_some_iff.mp h
  dsimp only at h
  refine q_cS1 (idx := 11) (v := .long r1) (h1 := (q_K0, z2.1, z2.2, q_R0)) [.long l0] 48 [.long l0] [] rfl (by decide +kernel) (by decide +kernel) rfl (Nat.le_of_ble_eq_true rfl) (by decide +kernel) (s_X7_rootOf hc3) ?_
  refine q_blk2 (pc2 := 9) (ls2 := [(2, .long r1), (0, .long l0)]) (st2 := [.long l0, .long (r1 * r1)]) (h2 := (q_K0, z2.1, z2.2, q_R0)) [(.lstore_n 2, 0, 0, 0, 0, 0), (.lload_n 2, 0, 0, 0, 0, 0), (.lload_n 2, 0, 0, 0, 0, 0), (.lmul, 0, 0, 0, 0, 0), (.lload_n 0, 0, 0, 0, 0, 0)] (by decide +kernel) rfl rfl ⟨trivial, trivial, trivial, trivial, trivial, trivial⟩ ?_
  refine q_lc_ne (off := 7) (tgt := 17) (by decide +kernel) (by decide +kernel) (by decide) (fun c9_1 => ?_) (fun c9_1 => ?_)
  · rw [if_neg c9_1] at h
    refine q_blk2 (pc2 := 18) (ls2 := [(2, .long r1), (0, .long l0)]) (st2 := [.int 0]) (h2 := (q_K0, z2.1, z2.2, q_R0)) [(.iconst 0, 0, 0, 0, 0, 0)] (by decide +kernel) rfl rfl ⟨trivial, trivial⟩ ?_
    cases h
    exact q_iret .boolean rfl rfl (by decide +kernel)
  · rw [if_pos c9_1] at h
    refine q_blk2 (pc2 := 14) (ls2 := [(2, .long r1), (0, .long l0)]) (st2 := [.int 1]) (h2 := (q_K0, z2.1, z2.2, q_R0)) [(.iconst 1, 0, 0, 0, 1, 0)] (by decide +kernel) rfl rfl ⟨trivial, trivial⟩ ?_
    refine q_goto (off := 4) (tgt := 18) (by decide +kernel) (by decide) ?_
    cases h
    exact q_iret .boolean rfl rfl (by decide +kernel)
/-- java/lang/Math.abs(I)I -/
def F_J9_abs_0f7a4 (z : q_Z) (l0 : Int32) : Option (Int32 × q_Z) :=
  if (0 : Int32) ≤ l0 then
    some (l0, z)
  else
    some (-l0, z)
set_option maxRecDepth 100000 in
set_option maxHeartbeats 4000000 in
theorem s_J9_abs_0f7a4 {z zR : q_Z} {l0 : Int32} {rv : Int32} (h : F_J9_abs_0f7a4 z l0 = some (rv, zR)) : q_Ca 159 [.int l0] (q_K0, z.1, z.2, q_R0) (some (.int rv)) (q_K0, zR.1, zR.2, q_R0) := by
  refine q_Ca_of (by decide) (Nat.le_of_ble_eq_true rfl) ?_
  show q_Ex none 159 0 [(0, .int l0)] [] (q_K0, z.1, z.2, q_R0) _ _
  unfold F_J9_abs_0f7a4 at h
  refine q_blk2 (pc2 := 1) (ls2 := [(0, .int l0)]) (st2 := [.int l0]) (h2 := (q_K0, z.1, z.2, q_R0)) [(.iload_n 0, 0, 0, 0, 0, 0)] (by decide +kernel) rfl rfl ⟨trivial, trivial⟩ ?_
  refine q_if_ge (off := 8) (tgt := 9) (by decide +kernel) (by decide) (fun c1_1 => ?_) (fun c1_1 => ?_)
  · rw [if_pos c1_1] at h
    refine q_blk2 (pc2 := 10) (ls2 := [(0, .int l0)]) (st2 := [.int l0]) (h2 := (q_K0, z.1, z.2, q_R0)) [(.iload_n 0, 0, 0, 0, 0, 0)] (by decide +kernel) rfl rfl ⟨trivial, trivial⟩ ?_
    cases h
    exact q_iret .int rfl rfl (by decide +kernel)
  · rw [if_neg c1_1] at h
    refine q_blk2 (pc2 := 6) (ls2 := [(0, .int l0)]) (st2 := [.int (-l0)]) (h2 := (q_K0, z.1, z.2, q_R0)) [(.iload_n 0, 0, 0, 0, 0, 0), (.ineg, 0, 0, 0, 0, 0)] (by decide +kernel) rfl rfl ⟨trivial, trivial, trivial⟩ ?_
    refine q_goto (off := 4) (tgt := 10) (by decide +kernel) (by decide) ?_
    cases h
    exact q_iret .int rfl rfl (by decide +kernel)
