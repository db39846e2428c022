/-! pure functions of the methods, and that the methods do what they say (written by wip/whole/dec.py) -/
/-- RootFormsModel.no(I)I -/
def F_X10_no (z : q_Z) (l1 : Int32) : Option (Int32 × q_Z) :=
  some ((-1), (q_u2 z.1 128 2 l1, z.2))
set_option maxRecDepth 100000 in
set_option maxHeartbeats 4000000 in
theorem s_X10_no {z zR : q_Z} {l1 : Int32} {rv : Int32} (h : F_X10_no z l1 = some (rv, zR)) : q_Ca 98 [.ref 128, .int l1] (q_K0, z.1, z.2, q_R0) (some (.int rv)) (q_K0, zR.1, zR.2, q_R0) := by
  refine q_Ca_of (by decide) (Nat.le_of_ble_eq_true rfl) ?_
  show q_Ex none 98 0 [(0, .ref 128), (1, .int l1)] [] (q_K0, z.1, z.2, q_R0) _ _
  unfold F_X10_no at h
  refine q_blk2 (pc2 := 6) (ls2 := [(0, .ref 128), (1, .int l1)]) (st2 := [.int (-1)]) (h2 := (q_K0, q_u2 z.1 128 2 l1, z.2, q_R0)) [(.aload_n 0, 0, 0, 0, 0, 0), (.iload_n 1, 0, 0, 0, 0, 0), (.putfield 61, 0, 9, 2, 0, 0), (.iconst (-1), 0, 0, 0, (-1), 0)] (by decide +kernel) rfl rfl ⟨trivial, trivial, ⟨rfl, rfl, rfl⟩, trivial, trivial⟩ ?_
  cases h
  exact q_iret .int rfl rfl (by decide +kernel)
def T_X10_in_17 (z : q_Z) : Option (Int32 × q_Z) :=
  some (0, z)
set_option maxRecDepth 100000 in
set_option maxHeartbeats 4000000 in
theorem t_X10_in_17 {z zR : q_Z} {rv : Int32} (h : T_X10_in_17 z = some (rv, zR)) : q_Ex none 99 17 [] [] (q_K0, z.1, z.2, q_R0) (some (.int rv)) (q_K0, zR.1, zR.2, q_R0) := by
  unfold T_X10_in_17 at h
  refine q_blk2 (pc2 := 18) (ls2 := []) (st2 := [.int 0]) (h2 := (q_K0, z.1, z.2, q_R0)) [(.iconst 0, 0, 0, 0, 0, 0)] (by decide +kernel) rfl rfl ⟨trivial, trivial⟩ ?_
  cases h
  exact q_iret .boolean rfl rfl (by decide +kernel)
/-- RootFormsModel.in(JJJ)Z -/
def F_X10_in (z : q_Z) (l1 : Int64) (l3 : Int64) (l5 : Int64) : Option (Int32 × q_Z) :=
  if l1 < l3 then
    T_X10_in_17 z
  else
    if l5 < l1 then
      T_X10_in_17 z
    else
      some (1, z)
set_option maxRecDepth 100000 in
set_option maxHeartbeats 4000000 in
theorem s_X10_in {z zR : q_Z} {l1 : Int64} {l3 : Int64} {l5 : Int64} {rv : Int32} (h : F_X10_in z l1 l3 l5 = some (rv, zR)) : q_Ca 99 [.ref 128, .long l1, .long l3, .long l5] (q_K0, z.1, z.2, q_R0) (some (.int rv)) (q_K0, zR.1, zR.2, q_R0) := by
  refine q_Ca_of (by decide) (Nat.le_of_ble_eq_true rfl) ?_
  show q_Ex none 99 0 [(0, .ref 128), (1, .long l1), (3, .long l3), (5, .long l5)] [] (q_K0, z.1, z.2, q_R0) _ _
  unfold F_X10_in at h
  refine q_blk2 (pc2 := 2) (ls2 := [(0, .ref 128), (1, .long l1), (3, .long l3), (5, .long l5)]) (st2 := [.long l3, .long l1]) (h2 := (q_K0, z.1, z.2, q_R0)) [(.lload_n 1, 0, 0, 0, 0, 0), (.lload_n 3, 0, 0, 0, 0, 0)] (by decide +kernel) rfl rfl ⟨trivial, trivial, trivial⟩ ?_
  refine q_lc_lt (off := 14) (tgt := 17) (by decide +kernel) (by decide +kernel) (by decide) (fun c2_1 => ?_) (fun c2_1 => ?_)
  · rw [if_pos c2_1] at h
    refine q_pick [] rfl ?_
    exact t_X10_in_17 h
  · rw [if_neg c2_1] at h
    refine q_blk2 (pc2 := 9) (ls2 := [(0, .ref 128), (1, .long l1), (3, .long l3), (5, .long l5)]) (st2 := [.long l5, .long l1]) (h2 := (q_K0, z.1, z.2, q_R0)) [(.lload_n 1, 0, 0, 0, 0, 0), (.lload 5, 0, 0, 0, 0, 0)] (by decide +kernel) rfl rfl ⟨trivial, trivial, trivial⟩ ?_
    refine q_lc_gt (off := 7) (tgt := 17) (by decide +kernel) (by decide +kernel) (by decide) (fun c9_2 => ?_) (fun c9_2 => ?_)
    · rw [if_pos c9_2] at h
      refine q_pick [] rfl ?_
      exact t_X10_in_17 h
    · rw [if_neg c9_2] at h
      refine q_blk2 (pc2 := 14) (ls2 := [(0, .ref 128), (1, .long l1), (3, .long l3), (5, .long l5)]) (st2 := [.int 1]) (h2 := (q_K0, z.1, z.2, q_R0)) [(.iconst 1, 0, 0, 0, 1, 0)] (by decide +kernel) rfl rfl ⟨trivial, trivial⟩ ?_
      refine q_goto (off := 4) (tgt := 18) (by decide +kernel) (by decide) ?_
      cases h
      exact q_iret .boolean rfl rfl (by decide +kernel)
/-- RootFormsModel.abs(J)J -/
def F_X10_abs (z : q_Z) (l1 : Int64) : Option (Int64 × q_Z) :=
  if (0 : Int64) ≤ l1 then
    some (l1, z)
  else
    some (-l1, z)
set_option maxRecDepth 100000 in
set_option maxHeartbeats 4000000 in
theorem s_X10_abs {z zR : q_Z} {l1 : Int64} {rv : Int64} (h : F_X10_abs z l1 = some (rv, zR)) : q_Ca 100 [.ref 128, .long l1] (q_K0, z.1, z.2, q_R0) (some (.long rv)) (q_K0, zR.1, zR.2, q_R0) := by
  refine q_Ca_of (by decide) (Nat.le_of_ble_eq_true rfl) ?_
  show q_Ex none 100 0 [(0, .ref 128), (1, .long l1)] [] (q_K0, z.1, z.2, q_R0) _ _
  unfold F_X10_abs at h
  refine q_blk2 (pc2 := 2) (ls2 := [(0, .ref 128), (1, .long l1)]) (st2 := [.long 0, .long l1]) (h2 := (q_K0, z.1, z.2, q_R0)) [(.lload_n 1, 0, 0, 0, 0, 0), (.lconst 0, 0, 0, 0, 0, 0)] (by decide +kernel) rfl rfl ⟨trivial, trivial, trivial⟩ ?_
  refine q_lc_ge (off := 8) (tgt := 11) (by decide +kernel) (by decide +kernel) (by decide) (fun c2_1 => ?_) (fun c2_1 => ?_)
  · rw [if_pos c2_1] at h
    refine q_blk2 (pc2 := 12) (ls2 := [(0, .ref 128), (1, .long l1)]) (st2 := [.long l1]) (h2 := (q_K0, z.1, z.2, q_R0)) [(.lload_n 1, 0, 0, 0, 0, 0)] (by decide +kernel) rfl rfl ⟨trivial, trivial⟩ ?_
    cases h
    exact q_lret rfl (by decide +kernel)
  · rw [if_neg c2_1] at h
    refine q_blk2 (pc2 := 8) (ls2 := [(0, .ref 128), (1, .long l1)]) (st2 := [.long (-l1)]) (h2 := (q_K0, z.1, z.2, q_R0)) [(.lload_n 1, 0, 0, 0, 0, 0), (.lneg, 0, 0, 0, 0, 0)] (by decide +kernel) rfl rfl ⟨trivial, trivial, trivial⟩ ?_
    refine q_goto (off := 4) (tgt := 12) (by decide +kernel) (by decide) ?_
    cases h
    exact q_lret rfl (by decide +kernel)
def B_X10_divisor_14 : Int64 × Int64 × q_Z → Option ((Int64 × Int64 × q_Z) × Nat) := fun (l5, l7, z) =>
  if l7 = (0 : Int64) then
    some ((l5, l7, z), 1)
  else
    if ¬ l7 = (0 : Int64) then
      some ((l7, l5 - l5 / l7 * l7, z), 0)
    else none
set_option maxRecDepth 100000 in
set_option maxHeartbeats 4000000 in
theorem b_X10_divisor_14 {s s2 : Int64 × Int64 × q_Z} {t : Nat} {r : Option Value} {h2 : q_H} (h : B_X10_divisor_14 s = some (s2, t)) (k0 : t = 0 → q_Ex none 101 14 [(5, .long s2.1), (7, .long s2.2.1)] [] (q_K0, s2.2.2.1, s2.2.2.2, q_R0) r h2) (k1 : t = 1 → q_Ex none 101 39 [(5, .long s2.1), (7, .long s2.2.1)] [] (q_K0, s2.2.2.1, s2.2.2.2, q_R0) r h2) : q_Ex none 101 14 [(5, .long s.1), (7, .long s.2.1)] [] (q_K0, s.2.2.1, s.2.2.2, q_R0) r h2 := by
  unfold B_X10_divisor_14 at h
  obtain ⟨l5, l7, z⟩ := s
  dsimp only at h
  show q_Ex none 101 14 [(5, .long l5), (7, .long l7)] [] (q_K0, z.1, z.2, q_R0) r h2
  refine q_blk2 (pc2 := 17) (ls2 := [(5, .long l5), (7, .long l7)]) (st2 := [.long 0, .long l7]) (h2 := (q_K0, z.1, z.2, q_R0)) [(.lload 7, 0, 0, 0, 0, 0), (.lconst 0, 0, 0, 0, 0, 0)] (by decide +kernel) rfl rfl ⟨trivial, trivial, trivial⟩ ?_
  refine q_lc_eq (off := 21) (tgt := 39) (by decide +kernel) (by decide +kernel) (by decide) (fun c17_1 => ?_) (fun c17_1 => ?_)
  · rw [if_pos c17_1] at h
    cases h
    refine q_pick [0, 1] rfl ?_
    exact k1 rfl
  · rw [if_neg c17_1] at h
    have b5 : ¬ l7 = (0 : Int64) := by
      by_cases q : ¬ l7 = (0 : Int64)
      · exact q
      · rw [if_neg q] at h; cases h
    rw [if_pos b5] at h
    refine q_blk2 (pc2 := 36) (ls2 := [(7, .long (l5 - l5 / l7 * l7)), (5, .long l7), (9, .long (l5 - l5 / l7 * l7))]) (st2 := []) (h2 := (q_K0, z.1, z.2, q_R0)) [(.lload 5, 0, 0, 0, 0, 0), (.lload 7, 0, 0, 0, 0, 0), (.lrem, 0, 0, 0, 0, 0), (.lstore 9, 0, 0, 0, 0, 0), (.lload 7, 0, 0, 0, 0, 0), (.lstore 5, 0, 0, 0, 0, 0), (.lload 9, 0, 0, 0, 0, 0), (.lstore 7, 0, 0, 0, 0, 0)] (by decide +kernel) rfl rfl ⟨trivial, trivial, b5, trivial, trivial, trivial, trivial, trivial, trivial⟩ ?_
    refine q_goto (off := -22) (tgt := 14) (by decide +kernel) (by decide) ?_
    cases h
    refine q_pick [1, 0] rfl ?_
    exact k0 rfl
/-- RootFormsModel.divisor(JJ)J -/
def F_X10_divisor (z : q_Z) (l1 : Int64) (l3 : Int64) : Option (Int64 × q_Z) :=
  (F_X10_abs z l1).bind fun (r1, z2) =>
    (F_X10_abs z2 l3).bind fun (r3, z4) =>
      (q_lp (B_X10_divisor_14) q_fu (r1, r3, z4)).bind fun ((w7, w8, z6), tg) =>
        if tg = 0 then
          some (w7, z6)
        else none
set_option maxRecDepth 100000 in
set_option maxHeartbeats 4000000 in
theorem s_X10_divisor {z zR : q_Z} {l1 : Int64} {l3 : Int64} {rv : Int64} (h : F_X10_divisor z l1 l3 = some (rv, zR)) : q_Ca 101 [.ref 128, .long l1, .long l3] (q_K0, z.1, z.2, q_R0) (some (.long rv)) (q_K0, zR.1, zR.2, q_R0) := by
  refine q_Ca_of (by decide) (Nat.le_of_ble_eq_true rfl) ?_
  show q_Ex none 101 0 [(0, .ref 128), (1, .long l1), (3, .long l3)] [] (q_K0, z.1, z.2, q_R0) _ _
  unfold F_X10_divisor at h
  refine q_blk2 (pc2 := 2) (ls2 := [(0, .ref 128), (1, .long l1), (3, .long l3)]) (st2 := [.long l1, .ref 128]) (h2 := (q_K0, z.1, z.2, q_R0)) [(.aload_n 0, 0, 0, 0, 0, 0), (.lload_n 1, 0, 0, 0, 0, 0)] (by decide +kernel) rfl rfl ⟨trivial, trivial, trivial⟩ ?_
  obtain ⟨⟨r1, z2⟩, hc9, h⟩ := Option.bind_eq_some_iff.mp h
  dsimp only at h
  refine q_cV1 (idx := 64) (v := .long r1) (h1 := (q_K0, z2.1, z2.2, q_R0)) [.long l1, .ref 128] 100 128 9 [.long l1] [] rfl (by decide +kernel) (by decide +kernel) rfl (Nat.le_of_ble_eq_true rfl) rfl (by decide) (by decide +kernel) (by decide +kernel) (s_X10_abs hc9) ?_
  refine q_blk2 (pc2 := 9) (ls2 := [(5, .long r1), (0, .ref 128), (1, .long l1), (3, .long l3)]) (st2 := [.long l3, .ref 128]) (h2 := (q_K0, z2.1, z2.2, q_R0)) [(.lstore 5, 0, 0, 0, 0, 0), (.aload_n 0, 0, 0, 0, 0, 0), (.lload_n 3, 0, 0, 0, 0, 0)] (by decide +kernel) rfl rfl ⟨trivial, trivial, trivial, trivial⟩ ?_
  obtain ⟨⟨r3, z4⟩, hc10, h⟩ := Option.bind_eq_some_iff.mp h
  dsimp only at h
  refine q_cV1 (idx := 64) (v := .long r3) (h1 := (q_K0, z4.1, z4.2, q_R0)) [.long l3, .ref 128] 100 128 9 [.long l3] [] rfl (by decide +kernel) (by decide +kernel) rfl (Nat.le_of_ble_eq_true rfl) rfl (by decide) (by decide +kernel) (by decide +kernel) (s_X10_abs hc10) ?_
  refine q_blk2 (pc2 := 14) (ls2 := [(7, .long r3), (5, .long r1), (0, .ref 128), (1, .long l1), (3, .long l3)]) (st2 := []) (h2 := (q_K0, z4.1, z4.2, q_R0)) [(.lstore 7, 0, 0, 0, 0, 0)] (by decide +kernel) rfl rfl ⟨trivial, trivial⟩ ?_
  obtain ⟨⟨⟨w7, w8, z6⟩, tg12⟩, hl11, h⟩ := Option.bind_eq_some_iff.mp h
  dsimp only at h
  refine q_pick [1, 0] rfl ?_
  refine q_lp_ok (P := fun s => q_Ex _ 101 14 [(5, .long s.1), (7, .long s.2.1)] [] (q_K0, s.2.2.1, s.2.2.2, q_R0) _ _) (X := fun u s => (u = 0 → q_Ex _ 101 39 [(5, .long s.1), (7, .long s.2.1)] [] (q_K0, s.2.2.1, s.2.2.2, q_R0) _ _)) (fun s s2 t hh k0 kx => b_X10_divisor_14 hh k0 (fun e => (kx 0 e) rfl)) hl11 ?_
  · intro e_tg12
    subst e_tg12
    rw [if_pos rfl] at h
    show q_Ex _ 101 39 [(5, .long w7), (7, .long w8)] [] (q_K0, z6.1, z6.2, q_R0) _ _
    refine q_blk2 (pc2 := 41) (ls2 := [(5, .long w7), (7, .long w8)]) (st2 := [.long w7]) (h2 := (q_K0, z6.1, z6.2, q_R0)) [(.lload 5, 0, 0, 0, 0, 0)] (by decide +kernel) rfl rfl ⟨trivial, trivial⟩ ?_
    cases h
    exact q_lret rfl (by decide +kernel)
def T_X10_root0_48 (z : q_Z) (l1 : Int64) (l3 : Int64) (l5 : Int64) : Option ((Int64 × Int64 × Int64 × q_Z) × Nat) :=
  some ((l1, l3, l5, z), 0)
set_option maxRecDepth 100000 in
set_option maxHeartbeats 4000000 in
theorem t_X10_root0_48 {z : q_Z} {l1 : Int64} {l3 : Int64} {l5 : Int64} {s2 : Int64 × Int64 × Int64 × q_Z} {t : Nat} {r : Option Value} {h2 : q_H} (h : T_X10_root0_48 z l1 l3 l5 = some (s2, t)) (k0 : t = 0 → q_Ex none 102 7 [(1, .long s2.1), (3, .long s2.2.1), (5, .long s2.2.2.1)] [] (q_K0, s2.2.2.2.1, s2.2.2.2.2, q_R0) r h2) (k1 : t = 1 → q_Ex none 102 51 [(1, .long s2.1), (3, .long s2.2.1), (5, .long s2.2.2.1)] [] (q_K0, s2.2.2.2.1, s2.2.2.2.2, q_R0) r h2) : q_Ex none 102 48 [(1, .long l1), (3, .long l3), (5, .long l5)] [] (q_K0, z.1, z.2, q_R0) r h2 := by
  unfold T_X10_root0_48 at h
  refine q_goto (off := -41) (tgt := 7) (by decide +kernel) (by decide) ?_
  cases h
  refine q_pick [0, 1, 2] rfl ?_
  exact k0 rfl
def B_X10_root0_7 : Int64 × Int64 × Int64 × q_Z → Option ((Int64 × Int64 × Int64 × q_Z) × Nat) := fun (l1, l3, l5, z) =>
  if l5 ≤ l3 then
    some ((l1, l3, l5, z), 1)
  else
    if l1 < ((((l3 + l5) + 1) / 2) * (((l3 + l5) + 1) / 2)) then
      T_X10_root0_48 z l1 l3 ((((l3 + l5) + 1) / 2) - 1)
    else
      T_X10_root0_48 z l1 (((l3 + l5) + 1) / 2) l5
set_option maxRecDepth 100000 in
set_option maxHeartbeats 4000000 in
theorem b_X10_root0_7 {s s2 : Int64 × Int64 × Int64 × q_Z} {t : Nat} {r : Option Value} {h2 : q_H} (h : B_X10_root0_7 s = some (s2, t)) (k0 : t = 0 → q_Ex none 102 7 [(1, .long s2.1), (3, .long s2.2.1), (5, .long s2.2.2.1)] [] (q_K0, s2.2.2.2.1, s2.2.2.2.2, q_R0) r h2) (k1 : t = 1 → q_Ex none 102 51 [(1, .long s2.1), (3, .long s2.2.1), (5, .long s2.2.2.1)] [] (q_K0, s2.2.2.2.1, s2.2.2.2.2, q_R0) r h2) : q_Ex none 102 7 [(1, .long s.1), (3, .long s.2.1), (5, .long s.2.2.1)] [] (q_K0, s.2.2.2.1, s.2.2.2.2, q_R0) r h2 := by
  unfold B_X10_root0_7 at h
  obtain ⟨l1, l3, l5, z⟩ := s
  dsimp only at h
  show q_Ex none 102 7 [(1, .long l1), (3, .long l3), (5, .long l5)] [] (q_K0, z.1, z.2, q_R0) r h2
  refine q_blk2 (pc2 := 10) (ls2 := [(1, .long l1), (3, .long l3), (5, .long l5)]) (st2 := [.long l5, .long l3]) (h2 := (q_K0, z.1, z.2, q_R0)) [(.lload_n 3, 0, 0, 0, 0, 0), (.lload 5, 0, 0, 0, 0, 0)] (by decide +kernel) rfl rfl ⟨trivial, trivial, trivial⟩ ?_
  refine q_lc_ge (off := 40) (tgt := 51) (by decide +kernel) (by decide +kernel) (by decide) (fun c10_1 => ?_) (fun c10_1 => ?_)
  · rw [if_pos c10_1] at h
    cases h
    refine q_pick [0, 1, 2] rfl ?_
    exact k1 rfl
  · rw [if_neg c10_1] at h
    refine q_blk2 (pc2 := 32) (ls2 := [(7, .long (((l3 + l5) + 1) / 2)), (1, .long l1), (3, .long l3), (5, .long l5)]) (st2 := [.long l1, .long ((((l3 + l5) + 1) / 2) * (((l3 + l5) + 1) / 2))]) (h2 := (q_K0, z.1, z.2, q_R0)) [(.lload_n 3, 0, 0, 0, 0, 0), (.lload 5, 0, 0, 0, 0, 0), (.ladd, 0, 0, 0, 0, 0), (.lconst 1, 0, 0, 0, 0, 1), (.ladd, 0, 0, 0, 0, 0), (.ldc2_w 70, 0, 0, 0, 0, 2), (.ldiv, 0, 0, 0, 0, 0), (.lstore 7, 0, 0, 0, 0, 0), (.lload 7, 0, 0, 0, 0, 0), (.lload 7, 0, 0, 0, 0, 0), (.lmul, 0, 0, 0, 0, 0), (.lload_n 1, 0, 0, 0, 0, 0)] (by decide +kernel) rfl rfl ⟨trivial, trivial, trivial, trivial, trivial, trivial, (by decide), trivial, trivial, trivial, trivial, trivial, trivial⟩ ?_
    refine q_lc_gt (off := 9) (tgt := 42) (by decide +kernel) (by decide +kernel) (by decide) (fun c32_2 => ?_) (fun c32_2 => ?_)
    · rw [if_pos c32_2] at h
      refine q_blk2 (pc2 := 48) (ls2 := [(5, .long ((((l3 + l5) + 1) / 2) - 1)), (7, .long (((l3 + l5) + 1) / 2)), (1, .long l1), (3, .long l3)]) (st2 := []) (h2 := (q_K0, z.1, z.2, q_R0)) [(.lload 7, 0, 0, 0, 0, 0), (.lconst 1, 0, 0, 0, 0, 1), (.lsub, 0, 0, 0, 0, 0), (.lstore 5, 0, 0, 0, 0, 0)] (by decide +kernel) rfl rfl ⟨trivial, trivial, trivial, trivial, trivial⟩ ?_
      refine q_pick [2, 3, 0] rfl ?_
      exact t_X10_root0_48 h k0 k1
    · rw [if_neg c32_2] at h
      refine q_blk2 (pc2 := 39) (ls2 := [(3, .long (((l3 + l5) + 1) / 2)), (7, .long (((l3 + l5) + 1) / 2)), (1, .long l1), (5, .long l5)]) (st2 := []) (h2 := (q_K0, z.1, z.2, q_R0)) [(.lload 7, 0, 0, 0, 0, 0), (.lstore_n 3, 0, 0, 0, 0, 0)] (by decide +kernel) rfl rfl ⟨trivial, trivial, trivial⟩ ?_
      refine q_goto (off := 9) (tgt := 48) (by decide +kernel) (by decide) ?_
      refine q_pick [2, 0, 3] rfl ?_
      exact t_X10_root0_48 h k0 k1
/-- RootFormsModel.root0(J)J -/
def F_X10_root0 (z : q_Z) (l1 : Int64) : Option (Int64 × q_Z) :=
  (q_lp (B_X10_root0_7) q_fu (l1, 0, 3037000499, z)).bind fun ((w2, w3, w4, z1), tg) =>
    if tg = 0 then
      some (w3, z1)
    else none
set_option maxRecDepth 100000 in
set_option maxHeartbeats 4000000 in
theorem s_X10_root0 {z zR : q_Z} {l1 : Int64} {rv : Int64} (h : F_X10_root0 z l1 = some (rv, zR)) : q_Ca 102 [.ref 128, .long l1] (q_K0, z.1, z.2, q_R0) (some (.long rv)) (q_K0, zR.1, zR.2, q_R0) := by
  refine q_Ca_of (by decide) (Nat.le_of_ble_eq_true rfl) ?_
  show q_Ex none 102 0 [(0, .ref 128), (1, .long l1)] [] (q_K0, z.1, z.2, q_R0) _ _
  unfold F_X10_root0 at h
  refine q_blk2 (pc2 := 7) (ls2 := [(5, .long 3037000499), (3, .long 0), (0, .ref 128), (1, .long l1)]) (st2 := []) (h2 := (q_K0, z.1, z.2, q_R0)) [(.lconst 0, 0, 0, 0, 0, 0), (.lstore_n 3, 0, 0, 0, 0, 0), (.ldc2_w 68, 0, 0, 0, 0, 3037000499), (.lstore 5, 0, 0, 0, 0, 0)] (by decide +kernel) rfl rfl ⟨trivial, trivial, trivial, trivial, trivial⟩ ?_
  obtain ⟨⟨⟨w2, w3, w4, z1⟩, tg6⟩, hl5, h⟩ := Option.bind_eq_some_iff.mp h
  dsimp only at h
  refine q_pick [3, 1, 0] rfl ?_
  refine q_lp_ok (P := fun s => q_Ex _ 102 7 [(1, .long s.1), (3, .long s.2.1), (5, .long s.2.2.1)] [] (q_K0, s.2.2.2.1, s.2.2.2.2, q_R0) _ _) (X := fun u s => (u = 0 → q_Ex _ 102 51 [(1, .long s.1), (3, .long s.2.1), (5, .long s.2.2.1)] [] (q_K0, s.2.2.2.1, s.2.2.2.2, q_R0) _ _)) (fun s s2 t hh k0 kx => b_X10_root0_7 hh k0 (fun e => (kx 0 e) rfl)) hl5 ?_
  · intro e_tg6
    subst e_tg6
    rw [if_pos rfl] at h
    show q_Ex _ 102 51 [(1, .long w2), (3, .long w3), (5, .long w4)] [] (q_K0, z1.1, z1.2, q_R0) _ _
    refine q_blk2 (pc2 := 52) (ls2 := [(1, .long w2), (3, .long w3), (5, .long w4)]) (st2 := [.long w3]) (h2 := (q_K0, z1.1, z1.2, q_R0)) [(.lload_n 3, 0, 0, 0, 0, 0)] (by decide +kernel) rfl rfl ⟨trivial, trivial⟩ ?_
    cases h
    exact q_lret rfl (by decide +kernel)
/-- RootFormsModel.take(I)V -/
def F_X10_take (z : q_Z) (l1 : Int32) : Option (Unit × q_Z) :=
  if 0 ≤ Int32.toInt (3 * l1) ∧ Int32.toInt (3 * l1) < 120 then
    if 0 ≤ Int32.toInt ((3 * l1) + 1) ∧ Int32.toInt ((3 * l1) + 1) < 120 then
      if 0 ≤ Int32.toInt ((3 * l1) + 2) ∧ Int32.toInt ((3 * l1) + 2) < 120 then
        some ((), (z.1, q_u2 (q_u2 (q_u2 z.2 128 12 (z.2 129 (Int32.toNatClampNeg (3 * l1)))) 128 13 (z.2 129 (Int32.toNatClampNeg ((3 * l1) + 1)))) 128 14 (z.2 129 (Int32.toNatClampNeg ((3 * l1) + 2)))))
      else none
    else none
  else none
set_option maxRecDepth 100000 in
set_option maxHeartbeats 4000000 in
theorem s_X10_take {z zR : q_Z} {l1 : Int32} {rv : Unit} (h : F_X10_take z l1 = some (rv, zR)) : q_Ca 103 [.ref 128, .int l1] (q_K0, z.1, z.2, q_R0) none (q_K0, zR.1, zR.2, q_R0) := by
  refine q_Ca_of (by decide) (Nat.le_of_ble_eq_true rfl) ?_
  show q_Ex none 103 0 [(0, .ref 128), (1, .int l1)] [] (q_K0, z.1, z.2, q_R0) _ _
  unfold F_X10_take at h
  have b1 : 0 ≤ Int32.toInt (3 * l1) ∧ Int32.toInt (3 * l1) < 120 := by
    by_cases q : 0 ≤ Int32.toInt (3 * l1) ∧ Int32.toInt (3 * l1) < 120
    · exact q
    · rw [if_neg q] at h; cases h
  rw [if_pos b1] at h
  have b2 : 0 ≤ Int32.toInt ((3 * l1) + 1) ∧ Int32.toInt ((3 * l1) + 1) < 120 := by
    by_cases q : 0 ≤ Int32.toInt ((3 * l1) + 1) ∧ Int32.toInt ((3 * l1) + 1) < 120
    · exact q
    · rw [if_neg q] at h; cases h
  rw [if_pos b2] at h
  have b3 : 0 ≤ Int32.toInt ((3 * l1) + 2) ∧ Int32.toInt ((3 * l1) + 2) < 120 := by
    by_cases q : 0 ≤ Int32.toInt ((3 * l1) + 2) ∧ Int32.toInt ((3 * l1) + 2) < 120
    · exact q
    · rw [if_neg q] at h; cases h
  rw [if_pos b3] at h
  refine q_blk2 (pc2 := 40) (ls2 := [(0, .ref 128), (1, .int l1)]) (st2 := []) (h2 := (q_K0, z.1, q_u2 (q_u2 (q_u2 z.2 128 12 (z.2 129 (Int32.toNatClampNeg (3 * l1)))) 128 13 (z.2 129 (Int32.toNatClampNeg ((3 * l1) + 1)))) 128 14 (z.2 129 (Int32.toNatClampNeg ((3 * l1) + 2))), q_R0)) [(.aload_n 0, 0, 0, 0, 0, 0), (.aload_n 0, 0, 0, 0, 0, 0), (.getfield 7, 0, 9, 4, 0, 0), (.iconst 3, 0, 0, 0, 3, 0), (.iload_n 1, 0, 0, 0, 0, 0), (.imul, 0, 0, 0, 0, 0), (.laload, 0, 0, 0, 0, 0), (.putfield 72, 0, 9, 12, 0, 0), (.aload_n 0, 0, 0, 0, 0, 0), (.aload_n 0, 0, 0, 0, 0, 0), (.getfield 7, 0, 9, 4, 0, 0), (.iconst 3, 0, 0, 0, 3, 0), (.iload_n 1, 0, 0, 0, 0, 0), (.imul, 0, 0, 0, 0, 0), (.iconst 1, 0, 0, 0, 1, 0), (.iadd, 0, 0, 0, 0, 0), (.laload, 0, 0, 0, 0, 0), (.putfield 76, 0, 9, 13, 0, 0), (.aload_n 0, 0, 0, 0, 0, 0), (.aload_n 0, 0, 0, 0, 0, 0), (.getfield 7, 0, 9, 4, 0, 0), (.iconst 3, 0, 0, 0, 3, 0), (.iload_n 1, 0, 0, 0, 0, 0), (.imul, 0, 0, 0, 0, 0), (.iconst 2, 0, 0, 0, 2, 0), (.iadd, 0, 0, 0, 0, 0), (.laload, 0, 0, 0, 0, 0), (.putfield 79, 0, 9, 14, 0, 0)] (by decide +kernel) rfl rfl ⟨trivial, trivial, rfl, trivial, trivial, trivial, ⟨_, rfl, vp_in_iff.mpr b1⟩, rfl, trivial, trivial, rfl, trivial, trivial, trivial, trivial, trivial, ⟨_, rfl, vp_in_iff.mpr b2⟩, rfl, trivial, trivial, rfl, trivial, trivial, trivial, trivial, trivial, ⟨_, rfl, vp_in_iff.mpr b3⟩, rfl, trivial⟩ ?_
  cases h
  exact q_vret rfl (by decide +kernel)
/-- RootFormsModel.lay(I)V -/
def F_X10_lay (z : q_Z) (l1 : Int32) : Option (Unit × q_Z) :=
  if 0 ≤ Int32.toInt (3 * l1) ∧ Int32.toInt (3 * l1) < 120 then
    if 0 ≤ Int32.toInt ((3 * l1) + 1) ∧ Int32.toInt ((3 * l1) + 1) < 120 then
      if 0 ≤ Int32.toInt ((3 * l1) + 2) ∧ Int32.toInt ((3 * l1) + 2) < 120 then
        some ((), (z.1, q_u2 (q_u2 (q_u2 z.2 129 (Int32.toNatClampNeg (3 * l1)) (z.2 128 12)) 129 (Int32.toNatClampNeg ((3 * l1) + 1)) (z.2 128 13)) 129 (Int32.toNatClampNeg ((3 * l1) + 2)) (z.2 128 14)))
      else none
    else none
  else none
set_option maxRecDepth 100000 in
set_option maxHeartbeats 4000000 in
theorem s_X10_lay {z zR : q_Z} {l1 : Int32} {rv : Unit} (h : F_X10_lay z l1 = some (rv, zR)) : q_Ca 104 [.ref 128, .int l1] (q_K0, z.1, z.2, q_R0) none (q_K0, zR.1, zR.2, q_R0) := by
  refine q_Ca_of (by decide) (Nat.le_of_ble_eq_true rfl) ?_
  show q_Ex none 104 0 [(0, .ref 128), (1, .int l1)] [] (q_K0, z.1, z.2, q_R0) _ _
  unfold F_X10_lay at h
  have b1 : 0 ≤ Int32.toInt (3 * l1) ∧ Int32.toInt (3 * l1) < 120 := by
    by_cases q : 0 ≤ Int32.toInt (3 * l1) ∧ Int32.toInt (3 * l1) < 120
    · exact q
    · rw [if_neg q] at h; cases h
  rw [if_pos b1] at h
  have b2 : 0 ≤ Int32.toInt ((3 * l1) + 1) ∧ Int32.toInt ((3 * l1) + 1) < 120 := by
    by_cases q : 0 ≤ Int32.toInt ((3 * l1) + 1) ∧ Int32.toInt ((3 * l1) + 1) < 120
    · exact q
    · rw [if_neg q] at h; cases h
  rw [if_pos b2] at h
  have b3 : 0 ≤ Int32.toInt ((3 * l1) + 2) ∧ Int32.toInt ((3 * l1) + 2) < 120 := by
    by_cases q : 0 ≤ Int32.toInt ((3 * l1) + 2) ∧ Int32.toInt ((3 * l1) + 2) < 120
    · exact q
    · rw [if_neg q] at h; cases h
  rw [if_pos b3] at h
  refine q_blk2 (pc2 := 40) (ls2 := [(0, .ref 128), (1, .int l1)]) (st2 := []) (h2 := (q_K0, z.1, q_u2 (q_u2 (q_u2 z.2 129 (Int32.toNatClampNeg (3 * l1)) (z.2 128 12)) 129 (Int32.toNatClampNeg ((3 * l1) + 1)) (z.2 128 13)) 129 (Int32.toNatClampNeg ((3 * l1) + 2)) (z.2 128 14), q_R0)) [(.aload_n 0, 0, 0, 0, 0, 0), (.getfield 7, 0, 9, 4, 0, 0), (.iconst 3, 0, 0, 0, 3, 0), (.iload_n 1, 0, 0, 0, 0, 0), (.imul, 0, 0, 0, 0, 0), (.aload_n 0, 0, 0, 0, 0, 0), (.getfield 72, 0, 9, 12, 0, 0), (.lastore, 0, 0, 0, 0, 0), (.aload_n 0, 0, 0, 0, 0, 0), (.getfield 7, 0, 9, 4, 0, 0), (.iconst 3, 0, 0, 0, 3, 0), (.iload_n 1, 0, 0, 0, 0, 0), (.imul, 0, 0, 0, 0, 0), (.iconst 1, 0, 0, 0, 1, 0), (.iadd, 0, 0, 0, 0, 0), (.aload_n 0, 0, 0, 0, 0, 0), (.getfield 76, 0, 9, 13, 0, 0), (.lastore, 0, 0, 0, 0, 0), (.aload_n 0, 0, 0, 0, 0, 0), (.getfield 7, 0, 9, 4, 0, 0), (.iconst 3, 0, 0, 0, 3, 0), (.iload_n 1, 0, 0, 0, 0, 0), (.imul, 0, 0, 0, 0, 0), (.iconst 2, 0, 0, 0, 2, 0), (.iadd, 0, 0, 0, 0, 0), (.aload_n 0, 0, 0, 0, 0, 0), (.getfield 79, 0, 9, 14, 0, 0), (.lastore, 0, 0, 0, 0, 0)] (by decide +kernel) rfl rfl ⟨trivial, rfl, trivial, trivial, trivial, trivial, rfl, ⟨_, rfl, vp_in_iff.mpr b1⟩, trivial, rfl, trivial, trivial, trivial, trivial, trivial, trivial, rfl, ⟨_, rfl, vp_in_iff.mpr b2⟩, trivial, rfl, trivial, trivial, trivial, trivial, trivial, trivial, rfl, ⟨_, rfl, vp_in_iff.mpr b3⟩, trivial⟩ ?_
  cases h
  exact q_vret rfl (by decide +kernel)
def T_X10_isForm_39 (z : q_Z) : Option (Int32 × q_Z) :=
  some (0, z)
set_option maxRecDepth 100000 in
set_option maxHeartbeats 4000000 in
theorem t_X10_isForm_39 {z zR : q_Z} {rv : Int32} (h : T_X10_isForm_39 z = some (rv, zR)) : q_Ex none 105 39 [] [] (q_K0, z.1, z.2, q_R0) (some (.int rv)) (q_K0, zR.1, zR.2, q_R0) := by
  unfold T_X10_isForm_39 at h
  refine q_blk2 (pc2 := 40) (ls2 := []) (st2 := [.int 0]) (h2 := (q_K0, z.1, z.2, q_R0)) [(.iconst 0, 0, 0, 0, 0, 0)] (by decide +kernel) rfl rfl ⟨trivial, trivial⟩ ?_
  cases h
  exact q_iret .boolean rfl rfl (by decide +kernel)
def T_X10_isForm_19 (z : q_Z) (l1 : Int64) (l3 : Int64) : Option (Int32 × q_Z) :=
  if ¬ (4 * l1) = (0 : Int64) then
    if (((l3 * l3) - (Int32.toInt64 (z.1 128 0))) - ((l3 * l3) - (Int32.toInt64 (z.1 128 0))) / (4 * l1) * (4 * l1)) = (0 : Int64) then
      if ¬ (4 * l1) = (0 : Int64) then
        (F_X10_divisor (z.1, q_u2 (q_u2 (q_u2 z.2 128 12 l1) 128 13 l3) 128 14 (((l3 * l3) - (Int32.toInt64 (z.1 128 0))) / (4 * l1))) l1 l3).bind fun (r3, z4) =>
          (F_X10_divisor z4 r3 (z4.2 128 14)).bind fun (r5, z6) =>
            if r5 = (1 : Int64) then
              some (1, z6)
            else
              some (0, z6)
      else none
    else
      T_X10_isForm_39 z
  else none
set_option maxRecDepth 100000 in
set_option maxHeartbeats 4000000 in
theorem t_X10_isForm_19 {z zR : q_Z} {l1 : Int64} {l3 : Int64} {rv : Int32} (h : T_X10_isForm_19 z l1 l3 = some (rv, zR)) : q_Ex none 105 19 [(0, .ref 128), (1, .long l1), (3, .long l3)] [] (q_K0, z.1, z.2, q_R0) (some (.int rv)) (q_K0, zR.1, zR.2, q_R0) := by
  unfold T_X10_isForm_19 at h
  have b1 : ¬ (4 * l1) = (0 : Int64) := by
    by_cases q : ¬ (4 * l1) = (0 : Int64)
    · exact q
    · rw [if_neg q] at h; cases h
  rw [if_pos b1] at h
  refine q_blk2 (pc2 := 35) (ls2 := [(0, .ref 128), (1, .long l1), (3, .long l3)]) (st2 := [.long 0, .long (((l3 * l3) - (Int32.toInt64 (z.1 128 0))) - ((l3 * l3) - (Int32.toInt64 (z.1 128 0))) / (4 * l1) * (4 * l1))]) (h2 := (q_K0, z.1, z.2, q_R0)) [(.lload_n 3, 0, 0, 0, 0, 0), (.lload_n 3, 0, 0, 0, 0, 0), (.lmul, 0, 0, 0, 0, 0), (.aload_n 0, 0, 0, 0, 0, 0), (.getfield 82, 0, 9, 0, 0, 0), (.i2l, 0, 0, 0, 0, 0), (.lsub, 0, 0, 0, 0, 0), (.ldc2_w 85, 0, 0, 0, 0, 4), (.lload_n 1, 0, 0, 0, 0, 0), (.lmul, 0, 0, 0, 0, 0), (.lrem, 0, 0, 0, 0, 0), (.lconst 0, 0, 0, 0, 0, 0)] (by decide +kernel) rfl rfl ⟨trivial, trivial, trivial, trivial, rfl, trivial, trivial, trivial, trivial, trivial, b1, trivial, trivial⟩ ?_
  refine q_lc_eq (off := 5) (tgt := 41) (by decide +kernel) (by decide +kernel) (by decide) (fun c35_1 => ?_) (fun c35_1 => ?_)
  · rw [if_pos c35_1] at h
    have b2 : ¬ (4 * l1) = (0 : Int64) := by
      by_cases q : ¬ (4 * l1) = (0 : Int64)
      · exact q
      · rw [if_neg q] at h; cases h
    rw [if_pos b2] at h
    refine q_blk2 (pc2 := 74) (ls2 := [(0, .ref 128), (1, .long l1), (3, .long l3)]) (st2 := [.long l3, .long l1, .ref 128, .ref 128]) (h2 := (q_K0, z.1, q_u2 (q_u2 (q_u2 z.2 128 12 l1) 128 13 l3) 128 14 (((l3 * l3) - (Int32.toInt64 (z.1 128 0))) / (4 * l1)), q_R0)) [(.aload_n 0, 0, 0, 0, 0, 0), (.lload_n 1, 0, 0, 0, 0, 0), (.putfield 72, 0, 9, 12, 0, 0), (.aload_n 0, 0, 0, 0, 0, 0), (.lload_n 3, 0, 0, 0, 0, 0), (.putfield 76, 0, 9, 13, 0, 0), (.aload_n 0, 0, 0, 0, 0, 0), (.lload_n 3, 0, 0, 0, 0, 0), (.lload_n 3, 0, 0, 0, 0, 0), (.lmul, 0, 0, 0, 0, 0), (.aload_n 0, 0, 0, 0, 0, 0), (.getfield 82, 0, 9, 0, 0, 0), (.i2l, 0, 0, 0, 0, 0), (.lsub, 0, 0, 0, 0, 0), (.ldc2_w 85, 0, 0, 0, 0, 4), (.lload_n 1, 0, 0, 0, 0, 0), (.lmul, 0, 0, 0, 0, 0), (.ldiv, 0, 0, 0, 0, 0), (.putfield 79, 0, 9, 14, 0, 0), (.aload_n 0, 0, 0, 0, 0, 0), (.aload_n 0, 0, 0, 0, 0, 0), (.lload_n 1, 0, 0, 0, 0, 0), (.lload_n 3, 0, 0, 0, 0, 0)] (by decide +kernel) rfl rfl ⟨trivial, trivial, rfl, trivial, trivial, rfl, trivial, trivial, trivial, trivial, trivial, rfl, trivial, trivial, trivial, trivial, trivial, b2, rfl, trivial, trivial, trivial, trivial, trivial⟩ ?_
    obtain ⟨⟨r3, z4⟩, hc7, h⟩ := Option.bind_eq_some_iff.mp h
    dsimp only at h
    refine q_cV1 (idx := 87) (v := .long r3) (h1 := (q_K0, z4.1, z4.2, q_R0)) [.long l3, .long l1, .ref 128, .ref 128] 101 128 9 [.long l1, .long l3] [.ref 128] rfl (by decide +kernel) (by decide +kernel) rfl (Nat.le_of_ble_eq_true rfl) rfl (by decide) (by decide +kernel) (by decide +kernel) (s_X10_divisor hc7) ?_
    refine q_blk2 (pc2 := 81) (ls2 := [(0, .ref 128), (1, .long l1), (3, .long l3)]) (st2 := [.long (z4.2 128 14), .long r3, .ref 128]) (h2 := (q_K0, z4.1, z4.2, q_R0)) [(.aload_n 0, 0, 0, 0, 0, 0), (.getfield 79, 0, 9, 14, 0, 0)] (by decide +kernel) rfl rfl ⟨trivial, rfl, trivial⟩ ?_
    obtain ⟨⟨r5, z6⟩, hc8, h⟩ := Option.bind_eq_some_iff.mp h
    dsimp only at h
    refine q_cV1 (idx := 87) (v := .long r5) (h1 := (q_K0, z6.1, z6.2, q_R0)) [.long (z4.2 128 14), .long r3, .ref 128] 101 128 9 [.long r3, .long (z4.2 128 14)] [] rfl (by decide +kernel) (by decide +kernel) rfl (Nat.le_of_ble_eq_true rfl) rfl (by decide) (by decide +kernel) (by decide +kernel) (s_X10_divisor hc8) ?_
    refine q_blk2 (pc2 := 85) (ls2 := [(0, .ref 128), (1, .long l1), (3, .long l3)]) (st2 := [.long 1, .long r5]) (h2 := (q_K0, z6.1, z6.2, q_R0)) [(.lconst 1, 0, 0, 0, 0, 1)] (by decide +kernel) rfl rfl ⟨trivial, trivial⟩ ?_
    refine q_lc_ne (off := 7) (tgt := 93) (by decide +kernel) (by decide +kernel) (by decide) (fun c85_2 => ?_) (fun c85_2 => ?_)
    · rw [if_neg c85_2] at h
      refine q_blk2 (pc2 := 94) (ls2 := [(0, .ref 128), (1, .long l1), (3, .long l3)]) (st2 := [.int 0]) (h2 := (q_K0, z6.1, z6.2, q_R0)) [(.iconst 0, 0, 0, 0, 0, 0)] (by decide +kernel) rfl rfl ⟨trivial, trivial⟩ ?_
      cases h
      exact q_iret .boolean rfl rfl (by decide +kernel)
    · rw [if_pos c85_2] at h
      refine q_blk2 (pc2 := 90) (ls2 := [(0, .ref 128), (1, .long l1), (3, .long l3)]) (st2 := [.int 1]) (h2 := (q_K0, z6.1, z6.2, q_R0)) [(.iconst 1, 0, 0, 0, 1, 0)] (by decide +kernel) rfl rfl ⟨trivial, trivial⟩ ?_
      refine q_goto (off := 4) (tgt := 94) (by decide +kernel) (by decide) ?_
      cases h
      exact q_iret .boolean rfl rfl (by decide +kernel)
  · rw [if_neg c35_1] at h
    refine q_pick [] rfl ?_
    exact t_X10_isForm_39 h
/-- RootFormsModel.isForm(JJ)Z -/
def F_X10_isForm (z : q_Z) (l1 : Int64) (l3 : Int64) : Option (Int32 × q_Z) :=
  if l1 = (0 : Int64) then
    T_X10_isForm_39 z
  else
    if (0 : Int32) ≤ (z.1 128 0) then
      T_X10_isForm_19 z l1 l3
    else
      if l1 < (0 : Int64) then
        T_X10_isForm_39 z
      else
        T_X10_isForm_19 z l1 l3
set_option maxRecDepth 100000 in
set_option maxHeartbeats 4000000 in
theorem s_X10_isForm {z zR : q_Z} {l1 : Int64} {l3 : Int64} {rv : Int32} (h : F_X10_isForm z l1 l3 = some (rv, zR)) : q_Ca 105 [.ref 128, .long l1, .long l3] (q_K0, z.1, z.2, q_R0) (some (.int rv)) (q_K0, zR.1, zR.2, q_R0) := by
  refine q_Ca_of (by decide) (Nat.le_of_ble_eq_true rfl) ?_
  show q_Ex none 105 0 [(0, .ref 128), (1, .long l1), (3, .long l3)] [] (q_K0, z.1, z.2, q_R0) _ _
  unfold F_X10_isForm at h
  refine q_blk2 (pc2 := 2) (ls2 := [(0, .ref 128), (1, .long l1), (3, .long l3)]) (st2 := [.long 0, .long l1]) (h2 := (q_K0, z.1, z.2, q_R0)) [(.lload_n 1, 0, 0, 0, 0, 0), (.lconst 0, 0, 0, 0, 0, 0)] (by decide +kernel) rfl rfl ⟨trivial, trivial, trivial⟩ ?_
  refine q_lc_eq (off := 36) (tgt := 39) (by decide +kernel) (by decide +kernel) (by decide) (fun c2_1 => ?_) (fun c2_1 => ?_)
  · rw [if_pos c2_1] at h
    refine q_pick [] rfl ?_
    exact t_X10_isForm_39 h
  · rw [if_neg c2_1] at h
    refine q_blk2 (pc2 := 10) (ls2 := [(0, .ref 128), (1, .long l1), (3, .long l3)]) (st2 := [.int (z.1 128 0)]) (h2 := (q_K0, z.1, z.2, q_R0)) [(.aload_n 0, 0, 0, 0, 0, 0), (.getfield 82, 0, 9, 0, 0, 0)] (by decide +kernel) rfl rfl ⟨trivial, rfl, trivial⟩ ?_
    refine q_if_ge (off := 9) (tgt := 19) (by decide +kernel) (by decide) (fun c10_2 => ?_) (fun c10_2 => ?_)
    · rw [if_pos c10_2] at h
      refine q_pick [0, 1, 2] rfl ?_
      exact t_X10_isForm_19 h
    · rw [if_neg c10_2] at h
      refine q_blk2 (pc2 := 15) (ls2 := [(0, .ref 128), (1, .long l1), (3, .long l3)]) (st2 := [.long 0, .long l1]) (h2 := (q_K0, z.1, z.2, q_R0)) [(.lload_n 1, 0, 0, 0, 0, 0), (.lconst 0, 0, 0, 0, 0, 0)] (by decide +kernel) rfl rfl ⟨trivial, trivial, trivial⟩ ?_
      refine q_lc_lt (off := 23) (tgt := 39) (by decide +kernel) (by decide +kernel) (by decide) (fun c15_3 => ?_) (fun c15_3 => ?_)
      · rw [if_pos c15_3] at h
        refine q_pick [] rfl ?_
        exact t_X10_isForm_39 h
      · rw [if_neg c15_3] at h
        refine q_pick [0, 1, 2] rfl ?_
        exact t_X10_isForm_19 h
def T_X10_isLeast_156 (z : q_Z) : Option (Int32 × q_Z) :=
  some (0, z)
set_option maxRecDepth 100000 in
set_option maxHeartbeats 4000000 in
theorem t_X10_isLeast_156 {z zR : q_Z} {rv : Int32} (h : T_X10_isLeast_156 z = some (rv, zR)) : q_Ex none 106 156 [] [] (q_K0, z.1, z.2, q_R0) (some (.int rv)) (q_K0, zR.1, zR.2, q_R0) := by
  unfold T_X10_isLeast_156 at h
  refine q_blk2 (pc2 := 157) (ls2 := []) (st2 := [.int 0]) (h2 := (q_K0, z.1, z.2, q_R0)) [(.iconst 0, 0, 0, 0, 0, 0)] (by decide +kernel) rfl rfl ⟨trivial, trivial⟩ ?_
  cases h
  exact q_iret .boolean rfl rfl (by decide +kernel)
def T_X10_isLeast_76 (z : q_Z) : Option (Int32 × q_Z) :=
  some (0, z)
set_option maxRecDepth 100000 in
set_option maxHeartbeats 4000000 in
theorem t_X10_isLeast_76 {z zR : q_Z} {rv : Int32} (h : T_X10_isLeast_76 z = some (rv, zR)) : q_Ex none 106 76 [] [] (q_K0, z.1, z.2, q_R0) (some (.int rv)) (q_K0, zR.1, zR.2, q_R0) := by
  unfold T_X10_isLeast_76 at h
  refine q_blk2 (pc2 := 77) (ls2 := []) (st2 := [.int 0]) (h2 := (q_K0, z.1, z.2, q_R0)) [(.iconst 0, 0, 0, 0, 0, 0)] (by decide +kernel) rfl rfl ⟨trivial, trivial⟩ ?_
  cases h
  exact q_iret .boolean rfl rfl (by decide +kernel)
def T_X10_isLeast_72 (z : q_Z) : Option (Int32 × q_Z) :=
  some (1, z)
set_option maxRecDepth 100000 in
set_option maxHeartbeats 4000000 in
theorem t_X10_isLeast_72 {z zR : q_Z} {rv : Int32} (h : T_X10_isLeast_72 z = some (rv, zR)) : q_Ex none 106 72 [] [] (q_K0, z.1, z.2, q_R0) (some (.int rv)) (q_K0, zR.1, zR.2, q_R0) := by
  unfold T_X10_isLeast_72 at h
  refine q_blk2 (pc2 := 73) (ls2 := []) (st2 := [.int 1]) (h2 := (q_K0, z.1, z.2, q_R0)) [(.iconst 1, 0, 0, 0, 1, 0)] (by decide +kernel) rfl rfl ⟨trivial, trivial⟩ ?_
  refine q_goto (off := 4) (tgt := 77) (by decide +kernel) (by decide) ?_
  cases h
  exact q_iret .boolean rfl rfl (by decide +kernel)
/-- RootFormsModel.isLeast()Z -/
def F_X10_isLeast (z : q_Z) : Option (Int32 × q_Z) :=
  if (0 : Int32) ≤ (z.1 128 0) then
    if (z.2 128 13) ≤ (0 : Int64) then
      T_X10_isLeast_156 z
    else
      if (Int32.toInt64 (z.1 128 1)) < (z.2 128 13) then
        T_X10_isLeast_156 z
      else
        (F_X10_abs z (z.2 128 12)).bind fun (r1, z2) =>
          if (2 * r1) ≤ ((Int32.toInt64 (z.1 128 1)) - (z.2 128 13)) then
            T_X10_isLeast_156 z2
          else
            (F_X10_abs z2 (z2.2 128 12)).bind fun (r3, z4) =>
              if ((Int32.toInt64 (z4.1 128 1)) + (z4.2 128 13)) < (2 * r3) then
                T_X10_isLeast_156 z4
              else
                some (1, z4)
  else
    (F_X10_abs z (z.2 128 13)).bind fun (r5, z6) =>
      if (z6.2 128 12) < r5 then
        T_X10_isLeast_76 z6
      else
        if (z6.2 128 14) < (z6.2 128 12) then
          T_X10_isLeast_76 z6
        else
          if (0 : Int64) ≤ (z6.2 128 13) then
            T_X10_isLeast_72 z6
          else
            (F_X10_abs z6 (z6.2 128 13)).bind fun (r7, z8) =>
              if (z8.2 128 12) ≤ r7 then
                T_X10_isLeast_76 z8
              else
                if (z8.2 128 14) ≤ (z8.2 128 12) then
                  T_X10_isLeast_76 z8
                else
                  T_X10_isLeast_72 z8
set_option maxRecDepth 100000 in
set_option maxHeartbeats 4000000 in
theorem s_X10_isLeast {z zR : q_Z} {rv : Int32} (h : F_X10_isLeast z = some (rv, zR)) : q_Ca 106 [.ref 128] (q_K0, z.1, z.2, q_R0) (some (.int rv)) (q_K0, zR.1, zR.2, q_R0) := by
  refine q_Ca_of (by decide) (Nat.le_of_ble_eq_true rfl) ?_
  show q_Ex none 106 0 [(0, .ref 128)] [] (q_K0, z.1, z.2, q_R0) _ _
  unfold F_X10_isLeast at h
  refine q_blk2 (pc2 := 4) (ls2 := [(0, .ref 128)]) (st2 := [.int (z.1 128 0)]) (h2 := (q_K0, z.1, z.2, q_R0)) [(.aload_n 0, 0, 0, 0, 0, 0), (.getfield 82, 0, 9, 0, 0, 0)] (by decide +kernel) rfl rfl ⟨trivial, rfl, trivial⟩ ?_
  refine q_if_ge (off := 74) (tgt := 78) (by decide +kernel) (by decide) (fun c4_1 => ?_) (fun c4_1 => ?_)
  · rw [if_pos c4_1] at h
    refine q_blk2 (pc2 := 83) (ls2 := [(0, .ref 128)]) (st2 := [.long 0, .long (z.2 128 13)]) (h2 := (q_K0, z.1, z.2, q_R0)) [(.aload_n 0, 0, 0, 0, 0, 0), (.getfield 76, 0, 9, 13, 0, 0), (.lconst 0, 0, 0, 0, 0, 0)] (by decide +kernel) rfl rfl ⟨trivial, rfl, trivial, trivial⟩ ?_
    refine q_lc_le (off := 72) (tgt := 156) (by decide +kernel) (by decide +kernel) (by decide) (fun c83_2 => ?_) (fun c83_2 => ?_)
    · rw [if_pos c83_2] at h
      refine q_pick [] rfl ?_
      exact t_X10_isLeast_156 h
    · rw [if_neg c83_2] at h
      refine q_blk2 (pc2 := 96) (ls2 := [(0, .ref 128)]) (st2 := [.long (Int32.toInt64 (z.1 128 1)), .long (z.2 128 13)]) (h2 := (q_K0, z.1, z.2, q_R0)) [(.aload_n 0, 0, 0, 0, 0, 0), (.getfield 76, 0, 9, 13, 0, 0), (.aload_n 0, 0, 0, 0, 0, 0), (.getfield 91, 0, 9, 1, 0, 0), (.i2l, 0, 0, 0, 0, 0)] (by decide +kernel) rfl rfl ⟨trivial, rfl, trivial, rfl, trivial, trivial⟩ ?_
      refine q_lc_gt (off := 59) (tgt := 156) (by decide +kernel) (by decide +kernel) (by decide) (fun c96_3 => ?_) (fun c96_3 => ?_)
      · rw [if_pos c96_3] at h
        refine q_pick [] rfl ?_
        exact t_X10_isLeast_156 h
      · rw [if_neg c96_3] at h
        refine q_blk2 (pc2 := 118) (ls2 := [(0, .ref 128)]) (st2 := [.long (z.2 128 12), .ref 128, .long 2, .long ((Int32.toInt64 (z.1 128 1)) - (z.2 128 13))]) (h2 := (q_K0, z.1, z.2, q_R0)) [(.aload_n 0, 0, 0, 0, 0, 0), (.getfield 91, 0, 9, 1, 0, 0), (.i2l, 0, 0, 0, 0, 0), (.aload_n 0, 0, 0, 0, 0, 0), (.getfield 76, 0, 9, 13, 0, 0), (.lsub, 0, 0, 0, 0, 0), (.ldc2_w 70, 0, 0, 0, 0, 2), (.aload_n 0, 0, 0, 0, 0, 0), (.aload_n 0, 0, 0, 0, 0, 0), (.getfield 72, 0, 9, 12, 0, 0)] (by decide +kernel) rfl rfl ⟨trivial, rfl, trivial, trivial, rfl, trivial, trivial, trivial, trivial, rfl, trivial⟩ ?_
        obtain ⟨⟨r1, z2⟩, hc9, h⟩ := Option.bind_eq_some_iff.mp h
        dsimp only at h
        refine q_cV1 (idx := 64) (v := .long r1) (h1 := (q_K0, z2.1, z2.2, q_R0)) [.long (z.2 128 12), .ref 128, .long 2, .long ((Int32.toInt64 (z.1 128 1)) - (z.2 128 13))] 100 128 9 [.long (z.2 128 12)] [.long 2, .long ((Int32.toInt64 (z.1 128 1)) - (z.2 128 13))] rfl (by decide +kernel) (by decide +kernel) rfl (Nat.le_of_ble_eq_true rfl) rfl (by decide) (by decide +kernel) (by decide +kernel) (s_X10_abs hc9) ?_
        refine q_blk2 (pc2 := 122) (ls2 := [(0, .ref 128)]) (st2 := [.long (2 * r1), .long ((Int32.toInt64 (z.1 128 1)) - (z.2 128 13))]) (h2 := (q_K0, z2.1, z2.2, q_R0)) [(.lmul, 0, 0, 0, 0, 0)] (by decide +kernel) rfl rfl ⟨trivial, trivial⟩ ?_
        refine q_lc_ge (off := 33) (tgt := 156) (by decide +kernel) (by decide +kernel) (by decide) (fun c122_4 => ?_) (fun c122_4 => ?_)
        · rw [if_pos c122_4] at h
          refine q_pick [] rfl ?_
          exact t_X10_isLeast_156 h
        · rw [if_neg c122_4] at h
          refine q_blk2 (pc2 := 134) (ls2 := [(0, .ref 128)]) (st2 := [.long (z2.2 128 12), .ref 128, .long 2]) (h2 := (q_K0, z2.1, z2.2, q_R0)) [(.ldc2_w 70, 0, 0, 0, 0, 2), (.aload_n 0, 0, 0, 0, 0, 0), (.aload_n 0, 0, 0, 0, 0, 0), (.getfield 72, 0, 9, 12, 0, 0)] (by decide +kernel) rfl rfl ⟨trivial, trivial, trivial, rfl, trivial⟩ ?_
          obtain ⟨⟨r3, z4⟩, hc10, h⟩ := Option.bind_eq_some_iff.mp h
          dsimp only at h
          refine q_cV1 (idx := 64) (v := .long r3) (h1 := (q_K0, z4.1, z4.2, q_R0)) [.long (z2.2 128 12), .ref 128, .long 2] 100 128 9 [.long (z2.2 128 12)] [.long 2] rfl (by decide +kernel) (by decide +kernel) rfl (Nat.le_of_ble_eq_true rfl) rfl (by decide) (by decide +kernel) (by decide +kernel) (s_X10_abs hc10) ?_
          refine q_blk2 (pc2 := 148) (ls2 := [(0, .ref 128)]) (st2 := [.long ((Int32.toInt64 (z4.1 128 1)) + (z4.2 128 13)), .long (2 * r3)]) (h2 := (q_K0, z4.1, z4.2, q_R0)) [(.lmul, 0, 0, 0, 0, 0), (.aload_n 0, 0, 0, 0, 0, 0), (.getfield 91, 0, 9, 1, 0, 0), (.i2l, 0, 0, 0, 0, 0), (.aload_n 0, 0, 0, 0, 0, 0), (.getfield 76, 0, 9, 13, 0, 0), (.ladd, 0, 0, 0, 0, 0)] (by decide +kernel) rfl rfl ⟨trivial, trivial, rfl, trivial, trivial, rfl, trivial, trivial⟩ ?_
          refine q_lc_gt (off := 7) (tgt := 156) (by decide +kernel) (by decide +kernel) (by decide) (fun c148_5 => ?_) (fun c148_5 => ?_)
          · rw [if_pos c148_5] at h
            refine q_pick [] rfl ?_
            exact t_X10_isLeast_156 h
          · rw [if_neg c148_5] at h
            refine q_blk2 (pc2 := 153) (ls2 := [(0, .ref 128)]) (st2 := [.int 1]) (h2 := (q_K0, z4.1, z4.2, q_R0)) [(.iconst 1, 0, 0, 0, 1, 0)] (by decide +kernel) rfl rfl ⟨trivial, trivial⟩ ?_
            refine q_goto (off := 4) (tgt := 157) (by decide +kernel) (by decide) ?_
            cases h
            exact q_iret .boolean rfl rfl (by decide +kernel)
  · rw [if_neg c4_1] at h
    refine q_blk2 (pc2 := 12) (ls2 := [(0, .ref 128)]) (st2 := [.long (z.2 128 13), .ref 128]) (h2 := (q_K0, z.1, z.2, q_R0)) [(.aload_n 0, 0, 0, 0, 0, 0), (.aload_n 0, 0, 0, 0, 0, 0), (.getfield 76, 0, 9, 13, 0, 0)] (by decide +kernel) rfl rfl ⟨trivial, trivial, rfl, trivial⟩ ?_
    obtain ⟨⟨r5, z6⟩, hc11, h⟩ := Option.bind_eq_some_iff.mp h
    dsimp only at h
    refine q_cV1 (idx := 64) (v := .long r5) (h1 := (q_K0, z6.1, z6.2, q_R0)) [.long (z.2 128 13), .ref 128] 100 128 9 [.long (z.2 128 13)] [] rfl (by decide +kernel) (by decide +kernel) rfl (Nat.le_of_ble_eq_true rfl) rfl (by decide) (by decide +kernel) (by decide +kernel) (s_X10_abs hc11) ?_
    refine q_blk2 (pc2 := 19) (ls2 := [(0, .ref 128)]) (st2 := [.long (z6.2 128 12), .long r5]) (h2 := (q_K0, z6.1, z6.2, q_R0)) [(.aload_n 0, 0, 0, 0, 0, 0), (.getfield 72, 0, 9, 12, 0, 0)] (by decide +kernel) rfl rfl ⟨trivial, rfl, trivial⟩ ?_
    refine q_lc_gt (off := 56) (tgt := 76) (by decide +kernel) (by decide +kernel) (by decide) (fun c19_6 => ?_) (fun c19_6 => ?_)
    · rw [if_pos c19_6] at h
      refine q_pick [] rfl ?_
      exact t_X10_isLeast_76 h
    · rw [if_neg c19_6] at h
      refine q_blk2 (pc2 := 31) (ls2 := [(0, .ref 128)]) (st2 := [.long (z6.2 128 14), .long (z6.2 128 12)]) (h2 := (q_K0, z6.1, z6.2, q_R0)) [(.aload_n 0, 0, 0, 0, 0, 0), (.getfield 72, 0, 9, 12, 0, 0), (.aload_n 0, 0, 0, 0, 0, 0), (.getfield 79, 0, 9, 14, 0, 0)] (by decide +kernel) rfl rfl ⟨trivial, rfl, trivial, rfl, trivial⟩ ?_
      refine q_lc_gt (off := 44) (tgt := 76) (by decide +kernel) (by decide +kernel) (by decide) (fun c31_7 => ?_) (fun c31_7 => ?_)
      · rw [if_pos c31_7] at h
        refine q_pick [] rfl ?_
        exact t_X10_isLeast_76 h
      · rw [if_neg c31_7] at h
        refine q_blk2 (pc2 := 40) (ls2 := [(0, .ref 128)]) (st2 := [.long 0, .long (z6.2 128 13)]) (h2 := (q_K0, z6.1, z6.2, q_R0)) [(.aload_n 0, 0, 0, 0, 0, 0), (.getfield 76, 0, 9, 13, 0, 0), (.lconst 0, 0, 0, 0, 0, 0)] (by decide +kernel) rfl rfl ⟨trivial, rfl, trivial, trivial⟩ ?_
        refine q_lc_ge (off := 31) (tgt := 72) (by decide +kernel) (by decide +kernel) (by decide) (fun c40_8 => ?_) (fun c40_8 => ?_)
        · rw [if_pos c40_8] at h
          refine q_pick [] rfl ?_
          exact t_X10_isLeast_72 h
        · rw [if_neg c40_8] at h
          refine q_blk2 (pc2 := 49) (ls2 := [(0, .ref 128)]) (st2 := [.long (z6.2 128 13), .ref 128]) (h2 := (q_K0, z6.1, z6.2, q_R0)) [(.aload_n 0, 0, 0, 0, 0, 0), (.aload_n 0, 0, 0, 0, 0, 0), (.getfield 76, 0, 9, 13, 0, 0)] (by decide +kernel) rfl rfl ⟨trivial, trivial, rfl, trivial⟩ ?_
          obtain ⟨⟨r7, z8⟩, hc12, h⟩ := Option.bind_eq_some_iff.mp h
          dsimp only at h
          refine q_cV1 (idx := 64) (v := .long r7) (h1 := (q_K0, z8.1, z8.2, q_R0)) [.long (z6.2 128 13), .ref 128] 100 128 9 [.long (z6.2 128 13)] [] rfl (by decide +kernel) (by decide +kernel) rfl (Nat.le_of_ble_eq_true rfl) rfl (by decide) (by decide +kernel) (by decide +kernel) (s_X10_abs hc12) ?_
          refine q_blk2 (pc2 := 56) (ls2 := [(0, .ref 128)]) (st2 := [.long (z8.2 128 12), .long r7]) (h2 := (q_K0, z8.1, z8.2, q_R0)) [(.aload_n 0, 0, 0, 0, 0, 0), (.getfield 72, 0, 9, 12, 0, 0)] (by decide +kernel) rfl rfl ⟨trivial, rfl, trivial⟩ ?_
          refine q_lc_ge (off := 19) (tgt := 76) (by decide +kernel) (by decide +kernel) (by decide) (fun c56_9 => ?_) (fun c56_9 => ?_)
          · rw [if_pos c56_9] at h
            refine q_pick [] rfl ?_
            exact t_X10_isLeast_76 h
          · rw [if_neg c56_9] at h
            refine q_blk2 (pc2 := 68) (ls2 := [(0, .ref 128)]) (st2 := [.long (z8.2 128 14), .long (z8.2 128 12)]) (h2 := (q_K0, z8.1, z8.2, q_R0)) [(.aload_n 0, 0, 0, 0, 0, 0), (.getfield 72, 0, 9, 12, 0, 0), (.aload_n 0, 0, 0, 0, 0, 0), (.getfield 79, 0, 9, 14, 0, 0)] (by decide +kernel) rfl rfl ⟨trivial, rfl, trivial, rfl, trivial⟩ ?_
            refine q_lc_ge (off := 7) (tgt := 76) (by decide +kernel) (by decide +kernel) (by decide) (fun c68_10 => ?_) (fun c68_10 => ?_)
            · rw [if_pos c68_10] at h
              refine q_pick [] rfl ?_
              exact t_X10_isLeast_76 h
            · rw [if_neg c68_10] at h
              refine q_pick [] rfl ?_
              exact t_X10_isLeast_72 h
/-- RootFormsModel.noSteps()V -/
def F_X10_noSteps (z : q_Z) : Option (Unit × q_Z) :=
  some ((), (z.1, q_u2 (q_u2 (q_u2 (q_u2 z.2 128 15 1) 128 16 0) 128 17 0) 128 18 1))
set_option maxRecDepth 100000 in
set_option maxHeartbeats 4000000 in
theorem s_X10_noSteps {z zR : q_Z} {rv : Unit} (h : F_X10_noSteps z = some (rv, zR)) : q_Ca 107 [.ref 128] (q_K0, z.1, z.2, q_R0) none (q_K0, zR.1, zR.2, q_R0) := by
  refine q_Ca_of (by decide) (Nat.le_of_ble_eq_true rfl) ?_
  show q_Ex none 107 0 [(0, .ref 128)] [] (q_K0, z.1, z.2, q_R0) _ _
  unfold F_X10_noSteps at h
  refine q_blk2 (pc2 := 20) (ls2 := [(0, .ref 128)]) (st2 := []) (h2 := (q_K0, z.1, q_u2 (q_u2 (q_u2 (q_u2 z.2 128 15 1) 128 16 0) 128 17 0) 128 18 1, q_R0)) [(.aload_n 0, 0, 0, 0, 0, 0), (.lconst 1, 0, 0, 0, 0, 1), (.putfield 94, 0, 9, 15, 0, 0), (.aload_n 0, 0, 0, 0, 0, 0), (.lconst 0, 0, 0, 0, 0, 0), (.putfield 97, 0, 9, 16, 0, 0), (.aload_n 0, 0, 0, 0, 0, 0), (.lconst 0, 0, 0, 0, 0, 0), (.putfield 100, 0, 9, 17, 0, 0), (.aload_n 0, 0, 0, 0, 0, 0), (.lconst 1, 0, 0, 0, 0, 1), (.putfield 103, 0, 9, 18, 0, 0)] (by decide +kernel) rfl rfl ⟨trivial, trivial, rfl, trivial, trivial, rfl, trivial, trivial, rfl, trivial, trivial, rfl, trivial⟩ ?_
  cases h
  exact q_vret rfl (by decide +kernel)
def T_X10_steps_67 (z : q_Z) (l3 : Int64) (l5 : Int64) : Option (Unit × q_Z) :=
  if ¬ (2 * (z.2 128 14)) = (0 : Int64) then
    if ¬ (4 * (z.2 128 14)) = (0 : Int64) then
      some ((), (z.1, q_u2 (q_u2 (q_u2 (q_u2 (q_u2 (q_u2 (q_u2 z.2 128 15 (z.2 128 16)) 128 16 ((-(z.2 128 15)) + ((z.2 128 16) * (((z.2 128 13) + (l3 - l5)) / (2 * (z.2 128 14)))))) 128 17 (z.2 128 18)) 128 18 ((-(z.2 128 17)) + ((z.2 128 18) * (((z.2 128 13) + (l3 - l5)) / (2 * (z.2 128 14)))))) 128 12 (z.2 128 14)) 128 13 (l3 - l5)) 128 14 ((((l3 - l5) * (l3 - l5)) - (Int32.toInt64 (z.1 128 0))) / (4 * (z.2 128 14)))))
    else none
  else none
set_option maxRecDepth 100000 in
set_option maxHeartbeats 4000000 in
theorem t_X10_steps_67 {z zR : q_Z} {l3 : Int64} {l5 : Int64} {rv : Unit} (h : T_X10_steps_67 z l3 l5 = some (rv, zR)) : q_Ex none 108 67 [(0, .ref 128), (3, .long l3), (5, .long l5)] [] (q_K0, z.1, z.2, q_R0) none (q_K0, zR.1, zR.2, q_R0) := by
  unfold T_X10_steps_67 at h
  have b4 : ¬ (2 * (z.2 128 14)) = (0 : Int64) := by
    by_cases q : ¬ (2 * (z.2 128 14)) = (0 : Int64)
    · exact q
    · rw [if_neg q] at h; cases h
  rw [if_pos b4] at h
  have b5 : ¬ (4 * (z.2 128 14)) = (0 : Int64) := by
    by_cases q : ¬ (4 * (z.2 128 14)) = (0 : Int64)
    · exact q
    · rw [if_neg q] at h; cases h
  rw [if_pos b5] at h
  refine q_blk2 (pc2 := 195) (ls2 := [(17, .long ((-(z.2 128 17)) + ((z.2 128 18) * (((z.2 128 13) + (l3 - l5)) / (2 * (z.2 128 14)))))), (15, .long (z.2 128 18)), (13, .long ((-(z.2 128 15)) + ((z.2 128 16) * (((z.2 128 13) + (l3 - l5)) / (2 * (z.2 128 14)))))), (11, .long (z.2 128 16)), (9, .long (((z.2 128 13) + (l3 - l5)) / (2 * (z.2 128 14)))), (7, .long (l3 - l5)), (0, .ref 128), (3, .long l3), (5, .long l5)]) (st2 := []) (h2 := (q_K0, z.1, q_u2 (q_u2 (q_u2 (q_u2 (q_u2 (q_u2 (q_u2 z.2 128 15 (z.2 128 16)) 128 16 ((-(z.2 128 15)) + ((z.2 128 16) * (((z.2 128 13) + (l3 - l5)) / (2 * (z.2 128 14)))))) 128 17 (z.2 128 18)) 128 18 ((-(z.2 128 17)) + ((z.2 128 18) * (((z.2 128 13) + (l3 - l5)) / (2 * (z.2 128 14)))))) 128 12 (z.2 128 14)) 128 13 (l3 - l5)) 128 14 ((((l3 - l5) * (l3 - l5)) - (Int32.toInt64 (z.1 128 0))) / (4 * (z.2 128 14))), q_R0)) [(.lload_n 3, 0, 0, 0, 0, 0), (.lload 5, 0, 0, 0, 0, 0), (.lsub, 0, 0, 0, 0, 0), (.lstore 7, 0, 0, 0, 0, 0), (.aload_n 0, 0, 0, 0, 0, 0), (.getfield 76, 0, 9, 13, 0, 0), (.lload 7, 0, 0, 0, 0, 0), (.ladd, 0, 0, 0, 0, 0), (.ldc2_w 70, 0, 0, 0, 0, 2), (.aload_n 0, 0, 0, 0, 0, 0), (.getfield 79, 0, 9, 14, 0, 0), (.lmul, 0, 0, 0, 0, 0), (.ldiv, 0, 0, 0, 0, 0), (.lstore 9, 0, 0, 0, 0, 0), (.aload_n 0, 0, 0, 0, 0, 0), (.getfield 97, 0, 9, 16, 0, 0), (.lstore 11, 0, 0, 0, 0, 0), (.aload_n 0, 0, 0, 0, 0, 0), (.getfield 94, 0, 9, 15, 0, 0), (.lneg, 0, 0, 0, 0, 0), (.aload_n 0, 0, 0, 0, 0, 0), (.getfield 97, 0, 9, 16, 0, 0), (.lload 9, 0, 0, 0, 0, 0), (.lmul, 0, 0, 0, 0, 0), (.ladd, 0, 0, 0, 0, 0), (.lstore 13, 0, 0, 0, 0, 0), (.aload_n 0, 0, 0, 0, 0, 0), (.getfield 103, 0, 9, 18, 0, 0), (.lstore 15, 0, 0, 0, 0, 0), (.aload_n 0, 0, 0, 0, 0, 0), (.getfield 100, 0, 9, 17, 0, 0), (.lneg, 0, 0, 0, 0, 0), (.aload_n 0, 0, 0, 0, 0, 0), (.getfield 103, 0, 9, 18, 0, 0), (.lload 9, 0, 0, 0, 0, 0), (.lmul, 0, 0, 0, 0, 0), (.ladd, 0, 0, 0, 0, 0), (.lstore 17, 0, 0, 0, 0, 0), (.aload_n 0, 0, 0, 0, 0, 0), (.lload 11, 0, 0, 0, 0, 0), (.putfield 94, 0, 9, 15, 0, 0), (.aload_n 0, 0, 0, 0, 0, 0), (.lload 13, 0, 0, 0, 0, 0), (.putfield 97, 0, 9, 16, 0, 0), (.aload_n 0, 0, 0, 0, 0, 0), (.lload 15, 0, 0, 0, 0, 0), (.putfield 100, 0, 9, 17, 0, 0), (.aload_n 0, 0, 0, 0, 0, 0), (.lload 17, 0, 0, 0, 0, 0), (.putfield 103, 0, 9, 18, 0, 0), (.aload_n 0, 0, 0, 0, 0, 0), (.aload_n 0, 0, 0, 0, 0, 0), (.getfield 79, 0, 9, 14, 0, 0), (.putfield 72, 0, 9, 12, 0, 0), (.aload_n 0, 0, 0, 0, 0, 0), (.lload 7, 0, 0, 0, 0, 0), (.putfield 76, 0, 9, 13, 0, 0), (.aload_n 0, 0, 0, 0, 0, 0), (.lload 7, 0, 0, 0, 0, 0), (.lload 7, 0, 0, 0, 0, 0), (.lmul, 0, 0, 0, 0, 0), (.aload_n 0, 0, 0, 0, 0, 0), (.getfield 82, 0, 9, 0, 0, 0), (.i2l, 0, 0, 0, 0, 0), (.lsub, 0, 0, 0, 0, 0), (.ldc2_w 85, 0, 0, 0, 0, 4), (.aload_n 0, 0, 0, 0, 0, 0), (.getfield 72, 0, 9, 12, 0, 0), (.lmul, 0, 0, 0, 0, 0), (.ldiv, 0, 0, 0, 0, 0), (.putfield 79, 0, 9, 14, 0, 0)] (by decide +kernel) rfl rfl ⟨trivial, trivial, trivial, trivial, trivial, rfl, trivial, trivial, trivial, trivial, rfl, trivial, b4, trivial, trivial, rfl, trivial, trivial, rfl, trivial, trivial, rfl, trivial, trivial, trivial, trivial, trivial, rfl, trivial, trivial, rfl, trivial, trivial, rfl, trivial, trivial, trivial, trivial, trivial, trivial, rfl, trivial, trivial, rfl, trivial, trivial, rfl, trivial, trivial, rfl, trivial, trivial, rfl, rfl, trivial, trivial, rfl, trivial, trivial, trivial, trivial, trivial, rfl, trivial, trivial, trivial, trivial, rfl, trivial, b5, rfl, trivial⟩ ?_
  cases h
  exact q_vret rfl (by decide +kernel)
def T_X10_steps_35 (z : q_Z) (l1 : Int64) (t0 : Int64) : Option (Unit × q_Z) :=
  if ¬ (2 * l1) = (0 : Int64) then
    if (0 : Int64) ≤ ((t0 + (z.2 128 13)) - (t0 + (z.2 128 13)) / (2 * l1) * (2 * l1)) then
      T_X10_steps_67 z t0 ((t0 + (z.2 128 13)) - (t0 + (z.2 128 13)) / (2 * l1) * (2 * l1))
    else
      T_X10_steps_67 z t0 (((t0 + (z.2 128 13)) - (t0 + (z.2 128 13)) / (2 * l1) * (2 * l1)) + (2 * l1))
  else none
set_option maxRecDepth 100000 in
set_option maxHeartbeats 4000000 in
theorem t_X10_steps_35 {z zR : q_Z} {l1 : Int64} {t0 : Int64} {rv : Unit} (h : T_X10_steps_35 z l1 t0 = some (rv, zR)) : q_Ex none 108 35 [(0, .ref 128), (1, .long l1)] [.long t0] (q_K0, z.1, z.2, q_R0) none (q_K0, zR.1, zR.2, q_R0) := by
  unfold T_X10_steps_35 at h
  have b3 : ¬ (2 * l1) = (0 : Int64) := by
    by_cases q : ¬ (2 * l1) = (0 : Int64)
    · exact q
    · rw [if_neg q] at h; cases h
  rw [if_pos b3] at h
  refine q_blk2 (pc2 := 53) (ls2 := [(5, .long ((t0 + (z.2 128 13)) - (t0 + (z.2 128 13)) / (2 * l1) * (2 * l1))), (3, .long t0), (0, .ref 128), (1, .long l1)]) (st2 := [.long 0, .long ((t0 + (z.2 128 13)) - (t0 + (z.2 128 13)) / (2 * l1) * (2 * l1))]) (h2 := (q_K0, z.1, z.2, q_R0)) [(.lstore_n 3, 0, 0, 0, 0, 0), (.lload_n 3, 0, 0, 0, 0, 0), (.aload_n 0, 0, 0, 0, 0, 0), (.getfield 76, 0, 9, 13, 0, 0), (.ladd, 0, 0, 0, 0, 0), (.ldc2_w 70, 0, 0, 0, 0, 2), (.lload_n 1, 0, 0, 0, 0, 0), (.lmul, 0, 0, 0, 0, 0), (.lrem, 0, 0, 0, 0, 0), (.lstore 5, 0, 0, 0, 0, 0), (.lload 5, 0, 0, 0, 0, 0), (.lconst 0, 0, 0, 0, 0, 0)] (by decide +kernel) rfl rfl ⟨trivial, trivial, trivial, rfl, trivial, trivial, trivial, trivial, b3, trivial, trivial, trivial, trivial⟩ ?_
  refine q_lc_ge (off := 13) (tgt := 67) (by decide +kernel) (by decide +kernel) (by decide) (fun c53_1 => ?_) (fun c53_1 => ?_)
  · rw [if_pos c53_1] at h
    refine q_pick [2, 1, 0] rfl ?_
    exact t_X10_steps_67 h
  · rw [if_neg c53_1] at h
    refine q_blk2 (pc2 := 67) (ls2 := [(5, .long (((t0 + (z.2 128 13)) - (t0 + (z.2 128 13)) / (2 * l1) * (2 * l1)) + (2 * l1))), (3, .long t0), (0, .ref 128), (1, .long l1)]) (st2 := []) (h2 := (q_K0, z.1, z.2, q_R0)) [(.lload 5, 0, 0, 0, 0, 0), (.ldc2_w 70, 0, 0, 0, 0, 2), (.lload_n 1, 0, 0, 0, 0, 0), (.lmul, 0, 0, 0, 0, 0), (.ladd, 0, 0, 0, 0, 0), (.lstore 5, 0, 0, 0, 0, 0)] (by decide +kernel) rfl rfl ⟨trivial, trivial, trivial, trivial, trivial, trivial, trivial⟩ ?_
    refine q_pick [2, 1, 0] rfl ?_
    exact t_X10_steps_67 h
def T_X10_steps_26 (z : q_Z) (l1 : Int64) : Option (Unit × q_Z) :=
  T_X10_steps_35 z l1 l1
set_option maxRecDepth 100000 in
set_option maxHeartbeats 4000000 in
theorem t_X10_steps_26 {z zR : q_Z} {l1 : Int64} {rv : Unit} (h : T_X10_steps_26 z l1 = some (rv, zR)) : q_Ex none 108 26 [(0, .ref 128), (1, .long l1)] [] (q_K0, z.1, z.2, q_R0) none (q_K0, zR.1, zR.2, q_R0) := by
  unfold T_X10_steps_26 at h
  refine q_blk2 (pc2 := 27) (ls2 := [(0, .ref 128), (1, .long l1)]) (st2 := [.long l1]) (h2 := (q_K0, z.1, z.2, q_R0)) [(.lload_n 1, 0, 0, 0, 0, 0)] (by decide +kernel) rfl rfl ⟨trivial, trivial⟩ ?_
  refine q_goto (off := 8) (tgt := 35) (by decide +kernel) (by decide) ?_
  refine q_pick [0, 1] rfl ?_
  exact t_X10_steps_35 h
/-- RootFormsModel.steps()V -/
def F_X10_steps (z : q_Z) : Option (Unit × q_Z) :=
  (F_X10_abs z (z.2 128 14)).bind fun (r1, z2) =>
    if (z2.1 128 0) < (0 : Int32) then
      T_X10_steps_26 z2 r1
    else
      if r1 ≤ (Int32.toInt64 (z2.1 128 1)) then
        T_X10_steps_35 z2 r1 (Int32.toInt64 (z2.1 128 1))
      else
        T_X10_steps_26 z2 r1
set_option maxRecDepth 100000 in
set_option maxHeartbeats 4000000 in
theorem s_X10_steps {z zR : q_Z} {rv : Unit} (h : F_X10_steps z = some (rv, zR)) : q_Ca 108 [.ref 128] (q_K0, z.1, z.2, q_R0) none (q_K0, zR.1, zR.2, q_R0) := by
  refine q_Ca_of (by decide) (Nat.le_of_ble_eq_true rfl) ?_
  show q_Ex none 108 0 [(0, .ref 128)] [] (q_K0, z.1, z.2, q_R0) _ _
  unfold F_X10_steps at h
  refine q_blk2 (pc2 := 5) (ls2 := [(0, .ref 128)]) (st2 := [.long (z.2 128 14), .ref 128]) (h2 := (q_K0, z.1, z.2, q_R0)) [(.aload_n 0, 0, 0, 0, 0, 0), (.aload_n 0, 0, 0, 0, 0, 0), (.getfield 79, 0, 9, 14, 0, 0)] (by decide +kernel) rfl rfl ⟨trivial, trivial, rfl, trivial⟩ ?_
  obtain ⟨⟨r1, z2⟩, hc6, h⟩ := Option.bind_eq_some_iff.mp h
  dsimp only at h
  refine q_cV1 (idx := 64) (v := .long r1) (h1 := (q_K0, z2.1, z2.2, q_R0)) [.long (z.2 128 14), .ref 128] 100 128 9 [.long (z.2 128 14)] [] rfl (by decide +kernel) (by decide +kernel) rfl (Nat.le_of_ble_eq_true rfl) rfl (by decide) (by decide +kernel) (by decide +kernel) (s_X10_abs hc6) ?_
  refine q_blk2 (pc2 := 13) (ls2 := [(1, .long r1), (0, .ref 128)]) (st2 := [.int (z2.1 128 0)]) (h2 := (q_K0, z2.1, z2.2, q_R0)) [(.lstore_n 1, 0, 0, 0, 0, 0), (.aload_n 0, 0, 0, 0, 0, 0), (.getfield 82, 0, 9, 0, 0, 0)] (by decide +kernel) rfl rfl ⟨trivial, trivial, rfl, trivial⟩ ?_
  refine q_if_lt (off := 13) (tgt := 26) (by decide +kernel) (by decide) (fun c13_1 => ?_) (fun c13_1 => ?_)
  · rw [if_pos c13_1] at h
    refine q_pick [1, 0] rfl ?_
    exact t_X10_steps_26 h
  · rw [if_neg c13_1] at h
    refine q_blk2 (pc2 := 22) (ls2 := [(1, .long r1), (0, .ref 128)]) (st2 := [.long (Int32.toInt64 (z2.1 128 1)), .long r1]) (h2 := (q_K0, z2.1, z2.2, q_R0)) [(.lload_n 1, 0, 0, 0, 0, 0), (.aload_n 0, 0, 0, 0, 0, 0), (.getfield 91, 0, 9, 1, 0, 0), (.i2l, 0, 0, 0, 0, 0)] (by decide +kernel) rfl rfl ⟨trivial, trivial, rfl, trivial, trivial⟩ ?_
    refine q_lc_le (off := 7) (tgt := 30) (by decide +kernel) (by decide +kernel) (by decide) (fun c22_2 => ?_) (fun c22_2 => ?_)
    · rw [if_pos c22_2] at h
      refine q_blk2 (pc2 := 35) (ls2 := [(1, .long r1), (0, .ref 128)]) (st2 := [.long (Int32.toInt64 (z2.1 128 1))]) (h2 := (q_K0, z2.1, z2.2, q_R0)) [(.aload_n 0, 0, 0, 0, 0, 0), (.getfield 91, 0, 9, 1, 0, 0), (.i2l, 0, 0, 0, 0, 0)] (by decide +kernel) rfl rfl ⟨trivial, rfl, trivial, trivial⟩ ?_
      refine q_pick [1, 0] rfl ?_
      exact t_X10_steps_35 h
    · rw [if_neg c22_2] at h
      refine q_pick [1, 0] rfl ?_
      exact t_X10_steps_26 h
def B_X10_reduces_2 : Int32 × q_Z → Option ((Int32 × q_Z) × Nat) := fun (l1, z) =>
  (F_X10_isLeast z).bind fun (r1, z2) =>
    if r1 = (0 : Int32) then
      (F_X10_steps z2).bind fun (_, z4) =>
        some ((l1 + 1, z4), 0)
    else
      some ((l1, z2), 1)
set_option maxRecDepth 100000 in
set_option maxHeartbeats 4000000 in
theorem b_X10_reduces_2 {s s2 : Int32 × q_Z} {t : Nat} {r : Option Value} {h2 : q_H} (h : B_X10_reduces_2 s = some (s2, t)) (k0 : t = 0 → q_Ex none 109 2 [(0, .ref 128), (1, .int s2.1)] [] (q_K0, s2.2.1, s2.2.2, q_R0) r h2) (k1 : t = 1 → q_Ex none 109 19 [(0, .ref 128), (1, .int s2.1)] [] (q_K0, s2.2.1, s2.2.2, q_R0) r h2) : q_Ex none 109 2 [(0, .ref 128), (1, .int s.1)] [] (q_K0, s.2.1, s.2.2, q_R0) r h2 := by
  unfold B_X10_reduces_2 at h
  obtain ⟨l1, z⟩ := s
  dsimp only at h
  show q_Ex none 109 2 [(0, .ref 128), (1, .int l1)] [] (q_K0, z.1, z.2, q_R0) r h2
  refine q_blk2 (pc2 := 3) (ls2 := [(0, .ref 128), (1, .int l1)]) (st2 := [.ref 128]) (h2 := (q_K0, z.1, z.2, q_R0)) [(.aload_n 0, 0, 0, 0, 0, 0)] (by decide +kernel) rfl rfl ⟨trivial, trivial⟩ ?_
  obtain ⟨⟨r1, z2⟩, hc5, h⟩ := Option.bind_eq_some_iff.mp h
  dsimp only at h
  refine q_cV1 (idx := 106) (v := .int r1) (h1 := (q_K0, z2.1, z2.2, q_R0)) [.ref 128] 106 128 9 [] [] rfl (by decide +kernel) (by decide +kernel) rfl (Nat.le_of_ble_eq_true rfl) rfl (by decide) (by decide +kernel) (by decide +kernel) (s_X10_isLeast hc5) ?_
  refine q_if_ne (off := 13) (tgt := 19) (by decide +kernel) (by decide) (fun c6_1 => ?_) (fun c6_1 => ?_)
  · rw [if_neg c6_1] at h
    cases h
    refine q_pick [0, 1] rfl ?_
    exact k1 rfl
  · rw [if_pos c6_1] at h
    refine q_blk2 (pc2 := 10) (ls2 := [(0, .ref 128), (1, .int l1)]) (st2 := [.ref 128]) (h2 := (q_K0, z2.1, z2.2, q_R0)) [(.aload_n 0, 0, 0, 0, 0, 0)] (by decide +kernel) rfl rfl ⟨trivial, trivial⟩ ?_
    obtain ⟨⟨_, z4⟩, hc6, h⟩ := Option.bind_eq_some_iff.mp h
    dsimp only at h
    refine q_cV0 (idx := 110) (h1 := (q_K0, z4.1, z4.2, q_R0)) [.ref 128] 108 128 9 [] [] rfl (by decide +kernel) (by decide +kernel) rfl (Nat.le_of_ble_eq_true rfl) rfl (by decide) (by decide +kernel) (by decide +kernel) (s_X10_steps hc6) ?_
    refine q_blk2 (pc2 := 16) (ls2 := [(1, .int (l1 + 1)), (0, .ref 128)]) (st2 := []) (h2 := (q_K0, z4.1, z4.2, q_R0)) [(.iinc 1 1, 0, 0, 0, 1, 0)] (by decide +kernel) rfl rfl ⟨trivial, trivial⟩ ?_
    refine q_goto (off := -14) (tgt := 2) (by decide +kernel) (by decide) ?_
    cases h
    refine q_pick [1, 0] rfl ?_
    exact k0 rfl
/-- RootFormsModel.reduces()I -/
def F_X10_reduces (z : q_Z) : Option (Int32 × q_Z) :=
  (q_lp (B_X10_reduces_2) q_fu (0, z)).bind fun ((w8, z7), tg) =>
    if tg = 0 then
      some (w8, z7)
    else none
set_option maxRecDepth 100000 in
set_option maxHeartbeats 4000000 in
theorem s_X10_reduces {z zR : q_Z} {rv : Int32} (h : F_X10_reduces z = some (rv, zR)) : q_Ca 109 [.ref 128] (q_K0, z.1, z.2, q_R0) (some (.int rv)) (q_K0, zR.1, zR.2, q_R0) := by
  refine q_Ca_of (by decide) (Nat.le_of_ble_eq_true rfl) ?_
  show q_Ex none 109 0 [(0, .ref 128)] [] (q_K0, z.1, z.2, q_R0) _ _
  unfold F_X10_reduces at h
  refine q_blk2 (pc2 := 2) (ls2 := [(1, .int 0), (0, .ref 128)]) (st2 := []) (h2 := (q_K0, z.1, z.2, q_R0)) [(.iconst 0, 0, 0, 0, 0, 0), (.istore_n 1, 0, 0, 0, 0, 0)] (by decide +kernel) rfl rfl ⟨trivial, trivial, trivial⟩ ?_
  obtain ⟨⟨⟨w8, z7⟩, tg10⟩, hl9, h⟩ := Option.bind_eq_some_iff.mp h
  dsimp only at h
  refine q_pick [1, 0] rfl ?_
  refine q_lp_ok (P := fun s => q_Ex _ 109 2 [(0, .ref 128), (1, .int s.1)] [] (q_K0, s.2.1, s.2.2, q_R0) _ _) (X := fun u s => (u = 0 → q_Ex _ 109 19 [(0, .ref 128), (1, .int s.1)] [] (q_K0, s.2.1, s.2.2, q_R0) _ _)) (fun s s2 t hh k0 kx => b_X10_reduces_2 hh k0 (fun e => (kx 0 e) rfl)) hl9 ?_
  · intro e_tg10
    subst e_tg10
    rw [if_pos rfl] at h
    show q_Ex _ 109 19 [(0, .ref 128), (1, .int w8)] [] (q_K0, z7.1, z7.2, q_R0) _ _
    refine q_blk2 (pc2 := 20) (ls2 := [(0, .ref 128), (1, .int w8)]) (st2 := [.int w8]) (h2 := (q_K0, z7.1, z7.2, q_R0)) [(.iload_n 1, 0, 0, 0, 0, 0)] (by decide +kernel) rfl rfl ⟨trivial, trivial⟩ ?_
    cases h
    exact q_iret .int rfl rfl (by decide +kernel)
def T_X10_indexOf_41 (z : q_Z) (l1 : Int64) (l3 : Int64) (l5 : Int32) : Option ((Int64 × Int64 × Int32 × q_Z) × Nat) :=
  some ((l1, l3, l5 + 1, z), 0)
set_option maxRecDepth 100000 in
set_option maxHeartbeats 4000000 in
theorem t_X10_indexOf_41 {z : q_Z} {l1 : Int64} {l3 : Int64} {l5 : Int32} {s2 : Int64 × Int64 × Int32 × q_Z} {t : Nat} {r : Option Value} {h2 : q_H} (h : T_X10_indexOf_41 z l1 l3 l5 = some (s2, t)) (k0 : t = 0 → q_Ex none 110 3 [(0, .ref 128), (1, .long s2.1), (3, .long s2.2.1), (5, .int s2.2.2.1)] [] (q_K0, s2.2.2.2.1, s2.2.2.2.2, q_R0) r h2) (k1 : t = 1 → q_Ex none 110 38 [(0, .ref 128), (1, .long s2.1), (3, .long s2.2.1), (5, .int s2.2.2.1)] [] (q_K0, s2.2.2.2.1, s2.2.2.2.2, q_R0) r h2) (k2 : t = 2 → q_Ex none 110 47 [(0, .ref 128), (1, .long s2.1), (3, .long s2.2.1), (5, .int s2.2.2.1)] [] (q_K0, s2.2.2.2.1, s2.2.2.2.2, q_R0) r h2) : q_Ex none 110 41 [(0, .ref 128), (1, .long l1), (3, .long l3), (5, .int l5)] [] (q_K0, z.1, z.2, q_R0) r h2 := by
  unfold T_X10_indexOf_41 at h
  refine q_blk2 (pc2 := 44) (ls2 := [(5, .int (l5 + 1)), (0, .ref 128), (1, .long l1), (3, .long l3)]) (st2 := []) (h2 := (q_K0, z.1, z.2, q_R0)) [(.iinc 5 1, 0, 0, 0, 1, 0)] (by decide +kernel) rfl rfl ⟨trivial, trivial⟩ ?_
  refine q_goto (off := -41) (tgt := 3) (by decide +kernel) (by decide) ?_
  cases h
  refine q_pick [1, 2, 3, 0] rfl ?_
  exact k0 rfl
def B_X10_indexOf_3 : Int64 × Int64 × Int32 × q_Z → Option ((Int64 × Int64 × Int32 × q_Z) × Nat) := fun (l1, l3, l5, z) =>
  if (z.1 128 22) ≤ l5 then
    some ((l1, l3, l5, z), 2)
  else
    if 0 ≤ Int32.toInt l5 ∧ Int32.toInt l5 < 4000 then
      if (Int32.toInt64 (z.1 134 (Int32.toNatClampNeg l5))) = l1 then
        if 0 ≤ Int32.toInt l5 ∧ Int32.toInt l5 < 4000 then
          if (Int32.toInt64 (z.1 135 (Int32.toNatClampNeg l5))) = l3 then
            some ((l1, l3, l5, z), 1)
          else
            T_X10_indexOf_41 z l1 l3 l5
        else none
      else
        T_X10_indexOf_41 z l1 l3 l5
    else none
set_option maxRecDepth 100000 in
set_option maxHeartbeats 4000000 in
theorem b_X10_indexOf_3 {s s2 : Int64 × Int64 × Int32 × q_Z} {t : Nat} {r : Option Value} {h2 : q_H} (h : B_X10_indexOf_3 s = some (s2, t)) (k0 : t = 0 → q_Ex none 110 3 [(0, .ref 128), (1, .long s2.1), (3, .long s2.2.1), (5, .int s2.2.2.1)] [] (q_K0, s2.2.2.2.1, s2.2.2.2.2, q_R0) r h2) (k1 : t = 1 → q_Ex none 110 38 [(0, .ref 128), (1, .long s2.1), (3, .long s2.2.1), (5, .int s2.2.2.1)] [] (q_K0, s2.2.2.2.1, s2.2.2.2.2, q_R0) r h2) (k2 : t = 2 → q_Ex none 110 47 [(0, .ref 128), (1, .long s2.1), (3, .long s2.2.1), (5, .int s2.2.2.1)] [] (q_K0, s2.2.2.2.1, s2.2.2.2.2, q_R0) r h2) : q_Ex none 110 3 [(0, .ref 128), (1, .long s.1), (3, .long s.2.1), (5, .int s.2.2.1)] [] (q_K0, s.2.2.2.1, s.2.2.2.2, q_R0) r h2 := by
  unfold B_X10_indexOf_3 at h
  obtain ⟨l1, l3, l5, z⟩ := s
  dsimp only at h
  show q_Ex none 110 3 [(0, .ref 128), (1, .long l1), (3, .long l3), (5, .int l5)] [] (q_K0, z.1, z.2, q_R0) r h2
  refine q_blk2 (pc2 := 9) (ls2 := [(0, .ref 128), (1, .long l1), (3, .long l3), (5, .int l5)]) (st2 := [.int (z.1 128 22), .int l5]) (h2 := (q_K0, z.1, z.2, q_R0)) [(.iload 5, 0, 0, 0, 0, 0), (.aload_n 0, 0, 0, 0, 0, 0), (.getfield 113, 0, 9, 22, 0, 0)] (by decide +kernel) rfl rfl ⟨trivial, trivial, rfl, trivial⟩ ?_
  refine q_ic_ge (off := 38) (tgt := 47) (by decide +kernel) (by decide) (fun c9_1 => ?_) (fun c9_1 => ?_)
  · rw [if_pos c9_1] at h
    cases h
    refine q_pick [0, 1, 2, 3] rfl ?_
    exact k2 rfl
  · rw [if_neg c9_1] at h
    have b1 : 0 ≤ Int32.toInt l5 ∧ Int32.toInt l5 < 4000 := by
      by_cases q : 0 ≤ Int32.toInt l5 ∧ Int32.toInt l5 < 4000
      · exact q
      · rw [if_neg q] at h; cases h
    rw [if_pos b1] at h
    refine q_blk2 (pc2 := 21) (ls2 := [(0, .ref 128), (1, .long l1), (3, .long l3), (5, .int l5)]) (st2 := [.long l1, .long (Int32.toInt64 (z.1 134 (Int32.toNatClampNeg l5)))]) (h2 := (q_K0, z.1, z.2, q_R0)) [(.aload_n 0, 0, 0, 0, 0, 0), (.getfield 26, 0, 9, 19, 0, 0), (.iload 5, 0, 0, 0, 0, 0), (.iaload, 0, 0, 0, 0, 0), (.i2l, 0, 0, 0, 0, 0), (.lload_n 1, 0, 0, 0, 0, 0)] (by decide +kernel) rfl rfl ⟨trivial, rfl, trivial, ⟨_, rfl, vp_in_iff.mpr b1⟩, trivial, trivial, trivial⟩ ?_
    refine q_lc_ne (off := 19) (tgt := 41) (by decide +kernel) (by decide +kernel) (by decide) (fun c21_2 => ?_) (fun c21_2 => ?_)
    · rw [if_neg c21_2] at h
      refine q_pick [0, 1, 2, 3] rfl ?_
      exact t_X10_indexOf_41 h k0 k1 k2
    · rw [if_pos c21_2] at h
      have b2 : 0 ≤ Int32.toInt l5 ∧ Int32.toInt l5 < 4000 := by
        by_cases q : 0 ≤ Int32.toInt l5 ∧ Int32.toInt l5 < 4000
        · exact q
        · rw [if_neg q] at h; cases h
      rw [if_pos b2] at h
      refine q_blk2 (pc2 := 34) (ls2 := [(0, .ref 128), (1, .long l1), (3, .long l3), (5, .int l5)]) (st2 := [.long l3, .long (Int32.toInt64 (z.1 135 (Int32.toNatClampNeg l5)))]) (h2 := (q_K0, z.1, z.2, q_R0)) [(.aload_n 0, 0, 0, 0, 0, 0), (.getfield 29, 0, 9, 20, 0, 0), (.iload 5, 0, 0, 0, 0, 0), (.iaload, 0, 0, 0, 0, 0), (.i2l, 0, 0, 0, 0, 0), (.lload_n 3, 0, 0, 0, 0, 0)] (by decide +kernel) rfl rfl ⟨trivial, rfl, trivial, ⟨_, rfl, vp_in_iff.mpr b2⟩, trivial, trivial, trivial⟩ ?_
      refine q_lc_ne (off := 6) (tgt := 41) (by decide +kernel) (by decide +kernel) (by decide) (fun c34_3 => ?_) (fun c34_3 => ?_)
      · rw [if_neg c34_3] at h
        refine q_pick [0, 1, 2, 3] rfl ?_
        exact t_X10_indexOf_41 h k0 k1 k2
      · rw [if_pos c34_3] at h
        cases h
        refine q_pick [0, 1, 2, 3] rfl ?_
        exact k1 rfl
/-- RootFormsModel.indexOf(JJ)I -/
def F_X10_indexOf (z : q_Z) (l1 : Int64) (l3 : Int64) : Option (Int32 × q_Z) :=
  (q_lp (B_X10_indexOf_3) q_fu (l1, l3, 0, z)).bind fun ((w4, w5, w6, z3), tg) =>
    if tg = 0 then
      some (w6, z3)
    else if tg = 1 then
      some ((-1), z3)
    else none
set_option maxRecDepth 100000 in
set_option maxHeartbeats 4000000 in
theorem s_X10_indexOf {z zR : q_Z} {l1 : Int64} {l3 : Int64} {rv : Int32} (h : F_X10_indexOf z l1 l3 = some (rv, zR)) : q_Ca 110 [.ref 128, .long l1, .long l3] (q_K0, z.1, z.2, q_R0) (some (.int rv)) (q_K0, zR.1, zR.2, q_R0) := by
  refine q_Ca_of (by decide) (Nat.le_of_ble_eq_true rfl) ?_
  show q_Ex none 110 0 [(0, .ref 128), (1, .long l1), (3, .long l3)] [] (q_K0, z.1, z.2, q_R0) _ _
  unfold F_X10_indexOf at h
  refine q_blk2 (pc2 := 3) (ls2 := [(5, .int 0), (0, .ref 128), (1, .long l1), (3, .long l3)]) (st2 := []) (h2 := (q_K0, z.1, z.2, q_R0)) [(.iconst 0, 0, 0, 0, 0, 0), (.istore 5, 0, 0, 0, 0, 0)] (by decide +kernel) rfl rfl ⟨trivial, trivial, trivial⟩ ?_
  obtain ⟨⟨⟨w4, w5, w6, z3⟩, tg8⟩, hl7, h⟩ := Option.bind_eq_some_iff.mp h
  dsimp only at h
  refine q_pick [1, 2, 3, 0] rfl ?_
  refine q_lp_ok (P := fun s => q_Ex _ 110 3 [(0, .ref 128), (1, .long s.1), (3, .long s.2.1), (5, .int s.2.2.1)] [] (q_K0, s.2.2.2.1, s.2.2.2.2, q_R0) _ _) (X := fun u s => (u = 0 → q_Ex _ 110 38 [(0, .ref 128), (1, .long s.1), (3, .long s.2.1), (5, .int s.2.2.1)] [] (q_K0, s.2.2.2.1, s.2.2.2.2, q_R0) _ _) ∧ (u = 1 → q_Ex _ 110 47 [(0, .ref 128), (1, .long s.1), (3, .long s.2.1), (5, .int s.2.2.1)] [] (q_K0, s.2.2.2.1, s.2.2.2.2, q_R0) _ _)) (fun s s2 t hh k0 kx => b_X10_indexOf_3 hh k0 (fun e => (kx 0 e).1 rfl) (fun e => (kx 1 e).2 rfl)) hl7 ?_
  refine ⟨?_, ?_⟩
  · intro e_tg8
    subst e_tg8
    rw [if_pos rfl] at h
    show q_Ex _ 110 38 [(0, .ref 128), (1, .long w4), (3, .long w5), (5, .int w6)] [] (q_K0, z3.1, z3.2, q_R0) _ _
    refine q_blk2 (pc2 := 40) (ls2 := [(0, .ref 128), (1, .long w4), (3, .long w5), (5, .int w6)]) (st2 := [.int w6]) (h2 := (q_K0, z3.1, z3.2, q_R0)) [(.iload 5, 0, 0, 0, 0, 0)] (by decide +kernel) rfl rfl ⟨trivial, trivial⟩ ?_
    cases h
    exact q_iret .int rfl rfl (by decide +kernel)
  · intro e_tg8
    subst e_tg8
    rw [if_neg (by decide)] at h
    rw [if_pos rfl] at h
    show q_Ex _ 110 47 [(0, .ref 128), (1, .long w4), (3, .long w5), (5, .int w6)] [] (q_K0, z3.1, z3.2, q_R0) _ _
    refine q_blk2 (pc2 := 48) (ls2 := [(0, .ref 128), (1, .long w4), (3, .long w5), (5, .int w6)]) (st2 := [.int (-1)]) (h2 := (q_K0, z3.1, z3.2, q_R0)) [(.iconst (-1), 0, 0, 0, (-1), 0)] (by decide +kernel) rfl rfl ⟨trivial, trivial⟩ ?_
    cases h
    exact q_iret .int rfl rfl (by decide +kernel)
def T_X10_becomes_124 (z : q_Z) (l2 : Int32) (l3 : Int32) (l4 : Int32) : Option ((Int32 × Int32 × Int32 × q_Z) × Nat) :=
  some ((l2, l3, l4 + 1, z), 0)
set_option maxRecDepth 100000 in
set_option maxHeartbeats 4000000 in
theorem t_X10_becomes_124 {z : q_Z} {l2 : Int32} {l3 : Int32} {l4 : Int32} {s2 : Int32 × Int32 × Int32 × q_Z} {t : Nat} {r : Option Value} {h2 : q_H} (h : T_X10_becomes_124 z l2 l3 l4 = some (s2, t)) (k0 : t = 0 → q_Ex none 111 55 [(0, .ref 128), (2, .int s2.1), (3, .int s2.2.1), (4, .int s2.2.2.1)] [] (q_K0, s2.2.2.2.1, s2.2.2.2.2, q_R0) r h2) (k1 : t = 1 → q_Ex none 111 130 [(0, .ref 128), (2, .int s2.1), (3, .int s2.2.1), (4, .int s2.2.2.1)] [] (q_K0, s2.2.2.2.1, s2.2.2.2.2, q_R0) r h2) : q_Ex none 111 124 [(0, .ref 128), (2, .int l2), (3, .int l3), (4, .int l4)] [] (q_K0, z.1, z.2, q_R0) r h2 := by
  unfold T_X10_becomes_124 at h
  refine q_blk2 (pc2 := 127) (ls2 := [(4, .int (l4 + 1)), (0, .ref 128), (2, .int l2), (3, .int l3)]) (st2 := []) (h2 := (q_K0, z.1, z.2, q_R0)) [(.iinc 4 1, 0, 0, 0, 1, 0)] (by decide +kernel) rfl rfl ⟨trivial, trivial⟩ ?_
  refine q_goto (off := -72) (tgt := 55) (by decide +kernel) (by decide) ?_
  cases h
  refine q_pick [1, 2, 3, 0] rfl ?_
  exact k0 rfl
def B_X10_becomes_55 : Int32 × Int32 × Int32 × q_Z → Option ((Int32 × Int32 × Int32 × q_Z) × Nat) := fun (l2, l3, l4, z) =>
  if l2 < l4 then
    some ((l2, l3, l4, z), 1)
  else
    (F_X10_isForm z (Int32.toInt64 l3) (Int32.toInt64 l4)).bind fun (r1, z2) =>
      if r1 = (0 : Int32) then
        T_X10_becomes_124 z2 l2 l3 l4
      else
        (F_X10_isLeast z2).bind fun (r3, z4) =>
          if r3 = (0 : Int32) then
            T_X10_becomes_124 z4 l2 l3 l4
          else
            if 0 ≤ Int32.toInt (z4.1 128 22) ∧ Int32.toInt (z4.1 128 22) < 4000 then
              T_X10_becomes_124 (q_u2 (q_u2 (q_u2 (q_u2 z4.1 134 (Int32.toNatClampNeg (z4.1 128 22)) l3) 135 (Int32.toNatClampNeg (z4.1 128 22)) l4) 136 (Int32.toNatClampNeg (z4.1 128 22)) (-1)) 128 22 ((z4.1 128 22) + 1), z4.2) l2 l3 l4
            else none
set_option maxRecDepth 100000 in
set_option maxHeartbeats 4000000 in
theorem b_X10_becomes_55 {s s2 : Int32 × Int32 × Int32 × q_Z} {t : Nat} {r : Option Value} {h2 : q_H} (h : B_X10_becomes_55 s = some (s2, t)) (k0 : t = 0 → q_Ex none 111 55 [(0, .ref 128), (2, .int s2.1), (3, .int s2.2.1), (4, .int s2.2.2.1)] [] (q_K0, s2.2.2.2.1, s2.2.2.2.2, q_R0) r h2) (k1 : t = 1 → q_Ex none 111 130 [(0, .ref 128), (2, .int s2.1), (3, .int s2.2.1), (4, .int s2.2.2.1)] [] (q_K0, s2.2.2.2.1, s2.2.2.2.2, q_R0) r h2) : q_Ex none 111 55 [(0, .ref 128), (2, .int s.1), (3, .int s.2.1), (4, .int s.2.2.1)] [] (q_K0, s.2.2.2.1, s.2.2.2.2, q_R0) r h2 := by
  unfold B_X10_becomes_55 at h
  obtain ⟨l2, l3, l4, z⟩ := s
  dsimp only at h
  show q_Ex none 111 55 [(0, .ref 128), (2, .int l2), (3, .int l3), (4, .int l4)] [] (q_K0, z.1, z.2, q_R0) r h2
  refine q_blk2 (pc2 := 58) (ls2 := [(0, .ref 128), (2, .int l2), (3, .int l3), (4, .int l4)]) (st2 := [.int l2, .int l4]) (h2 := (q_K0, z.1, z.2, q_R0)) [(.iload 4, 0, 0, 0, 0, 0), (.iload_n 2, 0, 0, 0, 0, 0)] (by decide +kernel) rfl rfl ⟨trivial, trivial, trivial⟩ ?_
  refine q_ic_gt (off := 72) (tgt := 130) (by decide +kernel) (by decide) (fun c58_1 => ?_) (fun c58_1 => ?_)
  · rw [if_pos c58_1] at h
    cases h
    refine q_pick [0, 1, 2, 3] rfl ?_
    exact k1 rfl
  · rw [if_neg c58_1] at h
    refine q_blk2 (pc2 := 67) (ls2 := [(0, .ref 128), (2, .int l2), (3, .int l3), (4, .int l4)]) (st2 := [.long (Int32.toInt64 l4), .long (Int32.toInt64 l3), .ref 128]) (h2 := (q_K0, z.1, z.2, q_R0)) [(.aload_n 0, 0, 0, 0, 0, 0), (.iload_n 3, 0, 0, 0, 0, 0), (.i2l, 0, 0, 0, 0, 0), (.iload 4, 0, 0, 0, 0, 0), (.i2l, 0, 0, 0, 0, 0)] (by decide +kernel) rfl rfl ⟨trivial, trivial, trivial, trivial, trivial, trivial⟩ ?_
    obtain ⟨⟨r1, z2⟩, hc6, h⟩ := Option.bind_eq_some_iff.mp h
    dsimp only at h
    refine q_cV1 (idx := 119) (v := .int r1) (h1 := (q_K0, z2.1, z2.2, q_R0)) [.long (Int32.toInt64 l4), .long (Int32.toInt64 l3), .ref 128] 105 128 9 [.long (Int32.toInt64 l3), .long (Int32.toInt64 l4)] [] rfl (by decide +kernel) (by decide +kernel) rfl (Nat.le_of_ble_eq_true rfl) rfl (by decide) (by decide +kernel) (by decide +kernel) (s_X10_isForm hc6) ?_
    refine q_if_eq (off := 54) (tgt := 124) (by decide +kernel) (by decide) (fun c70_2 => ?_) (fun c70_2 => ?_)
    · rw [if_pos c70_2] at h
      refine q_pick [0, 1, 2, 3] rfl ?_
      exact t_X10_becomes_124 h k0 k1
    · rw [if_neg c70_2] at h
      refine q_blk2 (pc2 := 74) (ls2 := [(0, .ref 128), (2, .int l2), (3, .int l3), (4, .int l4)]) (st2 := [.ref 128]) (h2 := (q_K0, z2.1, z2.2, q_R0)) [(.aload_n 0, 0, 0, 0, 0, 0)] (by decide +kernel) rfl rfl ⟨trivial, trivial⟩ ?_
      obtain ⟨⟨r3, z4⟩, hc7, h⟩ := Option.bind_eq_some_iff.mp h
      dsimp only at h
      refine q_cV1 (idx := 106) (v := .int r3) (h1 := (q_K0, z4.1, z4.2, q_R0)) [.ref 128] 106 128 9 [] [] rfl (by decide +kernel) (by decide +kernel) rfl (Nat.le_of_ble_eq_true rfl) rfl (by decide) (by decide +kernel) (by decide +kernel) (s_X10_isLeast hc7) ?_
      refine q_if_ne (off := 6) (tgt := 83) (by decide +kernel) (by decide) (fun c77_3 => ?_) (fun c77_3 => ?_)
      · rw [if_neg c77_3] at h
        have b5 : 0 ≤ Int32.toInt (z4.1 128 22) ∧ Int32.toInt (z4.1 128 22) < 4000 := by
          by_cases q : 0 ≤ Int32.toInt (z4.1 128 22) ∧ Int32.toInt (z4.1 128 22) < 4000
          · exact q
          · rw [if_neg q] at h; cases h
        rw [if_pos b5] at h
        refine q_blk2 (pc2 := 124) (ls2 := [(0, .ref 128), (2, .int l2), (3, .int l3), (4, .int l4)]) (st2 := []) (h2 := (q_K0, q_u2 (q_u2 (q_u2 (q_u2 z4.1 134 (Int32.toNatClampNeg (z4.1 128 22)) l3) 135 (Int32.toNatClampNeg (z4.1 128 22)) l4) 136 (Int32.toNatClampNeg (z4.1 128 22)) (-1)) 128 22 ((z4.1 128 22) + 1), z4.2, q_R0)) [(.aload_n 0, 0, 0, 0, 0, 0), (.getfield 26, 0, 9, 19, 0, 0), (.aload_n 0, 0, 0, 0, 0, 0), (.getfield 113, 0, 9, 22, 0, 0), (.iload_n 3, 0, 0, 0, 0, 0), (.iastore, 0, 0, 0, 0, 0), (.aload_n 0, 0, 0, 0, 0, 0), (.getfield 29, 0, 9, 20, 0, 0), (.aload_n 0, 0, 0, 0, 0, 0), (.getfield 113, 0, 9, 22, 0, 0), (.iload 4, 0, 0, 0, 0, 0), (.iastore, 0, 0, 0, 0, 0), (.aload_n 0, 0, 0, 0, 0, 0), (.getfield 32, 0, 9, 21, 0, 0), (.aload_n 0, 0, 0, 0, 0, 0), (.getfield 113, 0, 9, 22, 0, 0), (.iconst (-1), 0, 0, 0, (-1), 0), (.iastore, 0, 0, 0, 0, 0), (.aload_n 0, 0, 0, 0, 0, 0), (.dup, 0, 0, 0, 0, 0), (.getfield 113, 0, 9, 22, 0, 0), (.iconst 1, 0, 0, 0, 1, 0), (.iadd, 0, 0, 0, 0, 0), (.putfield 113, 0, 9, 22, 0, 0)] (by decide +kernel) rfl rfl ⟨trivial, rfl, trivial, rfl, trivial, ⟨_, rfl, vp_in_iff.mpr b5⟩, trivial, rfl, trivial, rfl, trivial, ⟨_, rfl, vp_in_iff.mpr b5⟩, trivial, rfl, trivial, rfl, trivial, ⟨_, rfl, vp_in_iff.mpr b5⟩, trivial, trivial, rfl, trivial, trivial, ⟨rfl, rfl, rfl⟩, trivial⟩ ?_
        refine q_pick [0, 1, 2, 3] rfl ?_
        exact t_X10_becomes_124 h k0 k1
      · rw [if_pos c77_3] at h
        refine q_goto (off := 44) (tgt := 124) (by decide +kernel) (by decide) ?_
        refine q_pick [0, 1, 2, 3] rfl ?_
        exact t_X10_becomes_124 h k0 k1
def B_X10_becomes_46 : Int32 × Int32 × q_Z → Option ((Int32 × Int32 × q_Z) × Nat) := fun (l2, l3, z) =>
  if l2 < l3 then
    some ((l2, l3, z), 1)
  else
    (q_lp (B_X10_becomes_55) q_fu (l2, l3, -l2, z)).bind fun ((w9, w10, w11, z8), tg) =>
      if tg = 0 then
        some ((w9, w10 + 1, z8), 0)
      else none
set_option maxRecDepth 100000 in
set_option maxHeartbeats 4000000 in
theorem b_X10_becomes_46 {s s2 : Int32 × Int32 × q_Z} {t : Nat} {r : Option Value} {h2 : q_H} (h : B_X10_becomes_46 s = some (s2, t)) (k0 : t = 0 → q_Ex none 111 46 [(0, .ref 128), (2, .int s2.1), (3, .int s2.2.1)] [] (q_K0, s2.2.2.1, s2.2.2.2, q_R0) r h2) (k1 : t = 1 → q_Ex none 111 136 [(0, .ref 128), (2, .int s2.1), (3, .int s2.2.1)] [] (q_K0, s2.2.2.1, s2.2.2.2, q_R0) r h2) : q_Ex none 111 46 [(0, .ref 128), (2, .int s.1), (3, .int s.2.1)] [] (q_K0, s.2.2.1, s.2.2.2, q_R0) r h2 := by
  unfold B_X10_becomes_46 at h
  obtain ⟨l2, l3, z⟩ := s
  dsimp only at h
  show q_Ex none 111 46 [(0, .ref 128), (2, .int l2), (3, .int l3)] [] (q_K0, z.1, z.2, q_R0) r h2
  refine q_blk2 (pc2 := 48) (ls2 := [(0, .ref 128), (2, .int l2), (3, .int l3)]) (st2 := [.int l2, .int l3]) (h2 := (q_K0, z.1, z.2, q_R0)) [(.iload_n 3, 0, 0, 0, 0, 0), (.iload_n 2, 0, 0, 0, 0, 0)] (by decide +kernel) rfl rfl ⟨trivial, trivial, trivial⟩ ?_
  refine q_ic_gt (off := 88) (tgt := 136) (by decide +kernel) (by decide) (fun c48_1 => ?_) (fun c48_1 => ?_)
  · rw [if_pos c48_1] at h
    cases h
    refine q_pick [0, 1, 2] rfl ?_
    exact k1 rfl
  · rw [if_neg c48_1] at h
    refine q_blk2 (pc2 := 55) (ls2 := [(4, .int (-l2)), (0, .ref 128), (2, .int l2), (3, .int l3)]) (st2 := []) (h2 := (q_K0, z.1, z.2, q_R0)) [(.iload_n 2, 0, 0, 0, 0, 0), (.ineg, 0, 0, 0, 0, 0), (.istore 4, 0, 0, 0, 0, 0)] (by decide +kernel) rfl rfl ⟨trivial, trivial, trivial, trivial⟩ ?_
    obtain ⟨⟨⟨w9, w10, w11, z8⟩, tg13⟩, hl12, h⟩ := Option.bind_eq_some_iff.mp h
    dsimp only at h
    refine q_pick [1, 2, 3, 0] rfl ?_
    refine q_lp_ok (P := fun s => q_Ex _ 111 55 [(0, .ref 128), (2, .int s.1), (3, .int s.2.1), (4, .int s.2.2.1)] [] (q_K0, s.2.2.2.1, s.2.2.2.2, q_R0) _ _) (X := fun u s => (u = 0 → q_Ex _ 111 130 [(0, .ref 128), (2, .int s.1), (3, .int s.2.1), (4, .int s.2.2.1)] [] (q_K0, s.2.2.2.1, s.2.2.2.2, q_R0) _ _)) (fun s s2 t hh k0 kx => b_X10_becomes_55 hh k0 (fun e => (kx 0 e) rfl)) hl12 ?_
    · intro e_tg13
      subst e_tg13
      rw [if_pos rfl] at h
      show q_Ex _ 111 130 [(0, .ref 128), (2, .int w9), (3, .int w10), (4, .int w11)] [] (q_K0, z8.1, z8.2, q_R0) _ _
      refine q_blk2 (pc2 := 133) (ls2 := [(3, .int (w10 + 1)), (0, .ref 128), (2, .int w9), (4, .int w11)]) (st2 := []) (h2 := (q_K0, z8.1, z8.2, q_R0)) [(.iinc 3 1, 0, 0, 0, 1, 0)] (by decide +kernel) rfl rfl ⟨trivial, trivial⟩ ?_
      refine q_goto (off := -87) (tgt := 46) (by decide +kernel) (by decide) ?_
      cases h
      refine q_pick [1, 2, 0] rfl ?_
      exact k0 rfl
def T_X10_becomes_288 (z : q_Z) (l3 : Int32) : Option ((Int32 × q_Z) × Nat) :=
  some ((l3 + 1, z), 0)
set_option maxRecDepth 100000 in
set_option maxHeartbeats 4000000 in
theorem t_X10_becomes_288 {z : q_Z} {l3 : Int32} {s2 : Int32 × q_Z} {t : Nat} {r : Option Value} {h2 : q_H} (h : T_X10_becomes_288 z l3 = some (s2, t)) (k0 : t = 0 → q_Ex none 111 143 [(0, .ref 128), (3, .int s2.1)] [] (q_K0, s2.2.1, s2.2.2, q_R0) r h2) (k1 : t = 1 → q_Ex none 111 294 [(0, .ref 128), (3, .int s2.1)] [] (q_K0, s2.2.1, s2.2.2, q_R0) r h2) : q_Ex none 111 288 [(0, .ref 128), (3, .int l3)] [] (q_K0, z.1, z.2, q_R0) r h2 := by
  unfold T_X10_becomes_288 at h
  refine q_blk2 (pc2 := 291) (ls2 := [(3, .int (l3 + 1)), (0, .ref 128)]) (st2 := []) (h2 := (q_K0, z.1, z.2, q_R0)) [(.iinc 3 1, 0, 0, 0, 1, 0)] (by decide +kernel) rfl rfl ⟨trivial, trivial⟩ ?_
  refine q_goto (off := -148) (tgt := 143) (by decide +kernel) (by decide) ?_
  cases h
  refine q_pick [1, 0] rfl ?_
  exact k0 rfl
def T_X10_becomes_261 (z : q_Z) (l3 : Int32) : Option ((Int32 × Int32 × q_Z) × Nat) :=
  (F_X10_indexOf z (z.2 128 12) (z.2 128 13)).bind fun (r25, z26) =>
    some ((l3, r25, z26), 0)
set_option maxRecDepth 100000 in
set_option maxHeartbeats 4000000 in
theorem t_X10_becomes_261 {z : q_Z} {l3 : Int32} {s2 : Int32 × Int32 × q_Z} {t : Nat} {r : Option Value} {h2 : q_H} (h : T_X10_becomes_261 z l3 = some (s2, t)) (k0 : t = 0 → q_Ex none 111 206 [(0, .ref 128), (3, .int s2.1), (4, .int s2.2.1)] [] (q_K0, s2.2.2.1, s2.2.2.2, q_R0) r h2) (k1 : t = 1 → q_Ex none 111 278 [(0, .ref 128), (3, .int s2.1), (4, .int s2.2.1)] [] (q_K0, s2.2.2.1, s2.2.2.2, q_R0) r h2) : q_Ex none 111 261 [(0, .ref 128), (3, .int l3)] [] (q_K0, z.1, z.2, q_R0) r h2 := by
  unfold T_X10_becomes_261 at h
  refine q_blk2 (pc2 := 270) (ls2 := [(0, .ref 128), (3, .int l3)]) (st2 := [.long (z.2 128 13), .long (z.2 128 12), .ref 128]) (h2 := (q_K0, z.1, z.2, q_R0)) [(.aload_n 0, 0, 0, 0, 0, 0), (.aload_n 0, 0, 0, 0, 0, 0), (.getfield 72, 0, 9, 12, 0, 0), (.aload_n 0, 0, 0, 0, 0, 0), (.getfield 76, 0, 9, 13, 0, 0)] (by decide +kernel) rfl rfl ⟨trivial, trivial, rfl, trivial, rfl, trivial⟩ ?_
  obtain ⟨⟨r25, z26⟩, hc27, h⟩ := Option.bind_eq_some_iff.mp h
  dsimp only at h
  refine q_cV1 (idx := 126) (v := .int r25) (h1 := (q_K0, z26.1, z26.2, q_R0)) [.long (z.2 128 13), .long (z.2 128 12), .ref 128] 110 128 9 [.long (z.2 128 12), .long (z.2 128 13)] [] rfl (by decide +kernel) (by decide +kernel) rfl (Nat.le_of_ble_eq_true rfl) rfl (by decide) (by decide +kernel) (by decide +kernel) (s_X10_indexOf hc27) ?_
  refine q_blk2 (pc2 := 275) (ls2 := [(4, .int r25), (0, .ref 128), (3, .int l3)]) (st2 := []) (h2 := (q_K0, z26.1, z26.2, q_R0)) [(.istore 4, 0, 0, 0, 0, 0)] (by decide +kernel) rfl rfl ⟨trivial, trivial⟩ ?_
  refine q_goto (off := -69) (tgt := 206) (by decide +kernel) (by decide) ?_
  cases h
  refine q_pick [1, 2, 0] rfl ?_
  exact k0 rfl
def B_X10_becomes_206 : Int32 × Int32 × q_Z → Option ((Int32 × Int32 × q_Z) × Nat) := fun (l3, l4, z) =>
  if 0 ≤ Int32.toInt l4 ∧ Int32.toInt l4 < 4000 then
    if (z.1 136 (Int32.toNatClampNeg l4)) = (-1 : Int32) then
      if 0 ≤ Int32.toInt l4 ∧ Int32.toInt l4 < 4000 then
        (F_X10_isForm (q_u2 z.1 136 (Int32.toNatClampNeg l4) (z.1 128 23), z.2) (Int32.toInt64 (z.1 134 (Int32.toNatClampNeg l4))) (Int32.toInt64 (z.1 135 (Int32.toNatClampNeg l4)))).bind fun (r23, z24) =>
          if (z24.1 128 0) ≤ (0 : Int32) then
            T_X10_becomes_261 z24 l3
          else
            (F_X10_steps z24).bind fun (_, z29) =>
              T_X10_becomes_261 z29 l3
      else none
    else
      some ((l3, l4, z), 1)
  else none
set_option maxRecDepth 100000 in
set_option maxHeartbeats 4000000 in
theorem b_X10_becomes_206 {s s2 : Int32 × Int32 × q_Z} {t : Nat} {r : Option Value} {h2 : q_H} (h : B_X10_becomes_206 s = some (s2, t)) (k0 : t = 0 → q_Ex none 111 206 [(0, .ref 128), (3, .int s2.1), (4, .int s2.2.1)] [] (q_K0, s2.2.2.1, s2.2.2.2, q_R0) r h2) (k1 : t = 1 → q_Ex none 111 278 [(0, .ref 128), (3, .int s2.1), (4, .int s2.2.1)] [] (q_K0, s2.2.2.1, s2.2.2.2, q_R0) r h2) : q_Ex none 111 206 [(0, .ref 128), (3, .int s.1), (4, .int s.2.1)] [] (q_K0, s.2.2.1, s.2.2.2, q_R0) r h2 := by
  unfold B_X10_becomes_206 at h
  obtain ⟨l3, l4, z⟩ := s
  dsimp only at h
  show q_Ex none 111 206 [(0, .ref 128), (3, .int l3), (4, .int l4)] [] (q_K0, z.1, z.2, q_R0) r h2
  have b21 : 0 ≤ Int32.toInt l4 ∧ Int32.toInt l4 < 4000 := by
    by_cases q : 0 ≤ Int32.toInt l4 ∧ Int32.toInt l4 < 4000
    · exact q
    · rw [if_neg q] at h; cases h
  rw [if_pos b21] at h
  refine q_blk2 (pc2 := 214) (ls2 := [(0, .ref 128), (3, .int l3), (4, .int l4)]) (st2 := [.int (-1), .int (z.1 136 (Int32.toNatClampNeg l4))]) (h2 := (q_K0, z.1, z.2, q_R0)) [(.aload_n 0, 0, 0, 0, 0, 0), (.getfield 32, 0, 9, 21, 0, 0), (.iload 4, 0, 0, 0, 0, 0), (.iaload, 0, 0, 0, 0, 0), (.iconst (-1), 0, 0, 0, (-1), 0)] (by decide +kernel) rfl rfl ⟨trivial, rfl, trivial, ⟨_, rfl, vp_in_iff.mpr b21⟩, trivial, trivial⟩ ?_
  refine q_ic_ne (off := 64) (tgt := 278) (by decide +kernel) (by decide) (fun c214_1 => ?_) (fun c214_1 => ?_)
  · rw [if_neg c214_1] at h
    cases h
    refine q_pick [0, 1, 2] rfl ?_
    exact k1 rfl
  · rw [if_pos c214_1] at h
    have b22 : 0 ≤ Int32.toInt l4 ∧ Int32.toInt l4 < 4000 := by
      by_cases q : 0 ≤ Int32.toInt l4 ∧ Int32.toInt l4 < 4000
      · exact q
      · rw [if_neg q] at h; cases h
    rw [if_pos b22] at h
    refine q_blk2 (pc2 := 245) (ls2 := [(0, .ref 128), (3, .int l3), (4, .int l4)]) (st2 := [.long (Int32.toInt64 (z.1 135 (Int32.toNatClampNeg l4))), .long (Int32.toInt64 (z.1 134 (Int32.toNatClampNeg l4))), .ref 128]) (h2 := (q_K0, q_u2 z.1 136 (Int32.toNatClampNeg l4) (z.1 128 23), z.2, q_R0)) [(.aload_n 0, 0, 0, 0, 0, 0), (.getfield 32, 0, 9, 21, 0, 0), (.iload 4, 0, 0, 0, 0, 0), (.aload_n 0, 0, 0, 0, 0, 0), (.getfield 123, 0, 9, 23, 0, 0), (.iastore, 0, 0, 0, 0, 0), (.aload_n 0, 0, 0, 0, 0, 0), (.aload_n 0, 0, 0, 0, 0, 0), (.getfield 26, 0, 9, 19, 0, 0), (.iload 4, 0, 0, 0, 0, 0), (.iaload, 0, 0, 0, 0, 0), (.i2l, 0, 0, 0, 0, 0), (.aload_n 0, 0, 0, 0, 0, 0), (.getfield 29, 0, 9, 20, 0, 0), (.iload 4, 0, 0, 0, 0, 0), (.iaload, 0, 0, 0, 0, 0), (.i2l, 0, 0, 0, 0, 0)] (by decide +kernel) rfl rfl ⟨trivial, rfl, trivial, trivial, rfl, ⟨_, rfl, vp_in_iff.mpr b22⟩, trivial, trivial, rfl, trivial, ⟨_, rfl, vp_in_iff.mpr b22⟩, trivial, trivial, rfl, trivial, ⟨_, rfl, vp_in_iff.mpr b22⟩, trivial, trivial⟩ ?_
    obtain ⟨⟨r23, z24⟩, hc30, h⟩ := Option.bind_eq_some_iff.mp h
    dsimp only at h
    refine q_cV1 (idx := 119) (v := .int r23) (h1 := (q_K0, z24.1, z24.2, q_R0)) [.long (Int32.toInt64 (z.1 135 (Int32.toNatClampNeg l4))), .long (Int32.toInt64 (z.1 134 (Int32.toNatClampNeg l4))), .ref 128] 105 128 9 [.long (Int32.toInt64 (z.1 134 (Int32.toNatClampNeg l4))), .long (Int32.toInt64 (z.1 135 (Int32.toNatClampNeg l4)))] [] rfl (by decide +kernel) (by decide +kernel) rfl (Nat.le_of_ble_eq_true rfl) rfl (by decide) (by decide +kernel) (by decide +kernel) (s_X10_isForm hc30) ?_
    refine q_blk2 (pc2 := 254) (ls2 := [(5, .int r23), (0, .ref 128), (3, .int l3), (4, .int l4)]) (st2 := [.int (z24.1 128 0)]) (h2 := (q_K0, z24.1, z24.2, q_R0)) [(.istore 5, 0, 0, 0, 0, 0), (.aload_n 0, 0, 0, 0, 0, 0), (.getfield 82, 0, 9, 0, 0, 0)] (by decide +kernel) rfl rfl ⟨trivial, trivial, rfl, trivial⟩ ?_
    refine q_if_le (off := 7) (tgt := 261) (by decide +kernel) (by decide) (fun c254_2 => ?_) (fun c254_2 => ?_)
    · rw [if_pos c254_2] at h
      refine q_pick [1, 2] rfl ?_
      exact t_X10_becomes_261 h k0 k1
    · rw [if_neg c254_2] at h
      refine q_blk2 (pc2 := 258) (ls2 := [(5, .int r23), (0, .ref 128), (3, .int l3), (4, .int l4)]) (st2 := [.ref 128]) (h2 := (q_K0, z24.1, z24.2, q_R0)) [(.aload_n 0, 0, 0, 0, 0, 0)] (by decide +kernel) rfl rfl ⟨trivial, trivial⟩ ?_
      obtain ⟨⟨_, z29⟩, hc31, h⟩ := Option.bind_eq_some_iff.mp h
      dsimp only at h
      refine q_cV0 (idx := 110) (h1 := (q_K0, z29.1, z29.2, q_R0)) [.ref 128] 108 128 9 [] [] rfl (by decide +kernel) (by decide +kernel) rfl (Nat.le_of_ble_eq_true rfl) rfl (by decide) (by decide +kernel) (by decide +kernel) (s_X10_steps hc31) ?_
      refine q_pick [1, 2] rfl ?_
      exact t_X10_becomes_261 h k0 k1
def B_X10_becomes_143 : Int32 × q_Z → Option ((Int32 × q_Z) × Nat) := fun (l3, z) =>
  if (z.1 128 22) ≤ l3 then
    some ((l3, z), 1)
  else
    if 0 ≤ Int32.toInt l3 ∧ Int32.toInt l3 < 4000 then
      if (z.1 134 (Int32.toNatClampNeg l3)) < (0 : Int32) then
        T_X10_becomes_288 z l3
      else
        if 0 ≤ Int32.toInt l3 ∧ Int32.toInt l3 < 4000 then
          if (z.1 136 (Int32.toNatClampNeg l3)) = (-1 : Int32) then
            if 0 ≤ Int32.toInt l3 ∧ Int32.toInt l3 < 4000 then
              if 0 ≤ Int32.toInt (z.1 128 23) ∧ Int32.toInt (z.1 128 23) < 1000 then
                (q_lp (B_X10_becomes_206) q_fu (l3, l3, (q_u2 (q_u2 z.1 137 (Int32.toNatClampNeg (z.1 128 23)) (z.1 134 (Int32.toNatClampNeg l3))) 138 (Int32.toNatClampNeg (z.1 128 23)) (z.1 135 (Int32.toNatClampNeg l3)), z.2))).bind fun ((w33, w34, z32), tg) =>
                  if tg = 0 then
                    T_X10_becomes_288 (q_u2 z32.1 128 23 ((z32.1 128 23) + 1), z32.2) w33
                  else none
              else none
            else none
          else
            T_X10_becomes_288 z l3
        else none
    else none
set_option maxRecDepth 100000 in
set_option maxHeartbeats 4000000 in
theorem b_X10_becomes_143 {s s2 : Int32 × q_Z} {t : Nat} {r : Option Value} {h2 : q_H} (h : B_X10_becomes_143 s = some (s2, t)) (k0 : t = 0 → q_Ex none 111 143 [(0, .ref 128), (3, .int s2.1)] [] (q_K0, s2.2.1, s2.2.2, q_R0) r h2) (k1 : t = 1 → q_Ex none 111 294 [(0, .ref 128), (3, .int s2.1)] [] (q_K0, s2.2.1, s2.2.2, q_R0) r h2) : q_Ex none 111 143 [(0, .ref 128), (3, .int s.1)] [] (q_K0, s.2.1, s.2.2, q_R0) r h2 := by
  unfold B_X10_becomes_143 at h
  obtain ⟨l3, z⟩ := s
  dsimp only at h
  show q_Ex none 111 143 [(0, .ref 128), (3, .int l3)] [] (q_K0, z.1, z.2, q_R0) r h2
  refine q_blk2 (pc2 := 148) (ls2 := [(0, .ref 128), (3, .int l3)]) (st2 := [.int (z.1 128 22), .int l3]) (h2 := (q_K0, z.1, z.2, q_R0)) [(.iload_n 3, 0, 0, 0, 0, 0), (.aload_n 0, 0, 0, 0, 0, 0), (.getfield 113, 0, 9, 22, 0, 0)] (by decide +kernel) rfl rfl ⟨trivial, trivial, rfl, trivial⟩ ?_
  refine q_ic_ge (off := 146) (tgt := 294) (by decide +kernel) (by decide) (fun c148_1 => ?_) (fun c148_1 => ?_)
  · rw [if_pos c148_1] at h
    cases h
    refine q_pick [0, 1] rfl ?_
    exact k1 rfl
  · rw [if_neg c148_1] at h
    have b17 : 0 ≤ Int32.toInt l3 ∧ Int32.toInt l3 < 4000 := by
      by_cases q : 0 ≤ Int32.toInt l3 ∧ Int32.toInt l3 < 4000
      · exact q
      · rw [if_neg q] at h; cases h
    rw [if_pos b17] at h
    refine q_blk2 (pc2 := 157) (ls2 := [(0, .ref 128), (3, .int l3)]) (st2 := [.int (z.1 134 (Int32.toNatClampNeg l3))]) (h2 := (q_K0, z.1, z.2, q_R0)) [(.aload_n 0, 0, 0, 0, 0, 0), (.getfield 26, 0, 9, 19, 0, 0), (.iload_n 3, 0, 0, 0, 0, 0), (.iaload, 0, 0, 0, 0, 0)] (by decide +kernel) rfl rfl ⟨trivial, rfl, trivial, ⟨_, rfl, vp_in_iff.mpr b17⟩, trivial⟩ ?_
    refine q_if_lt (off := 131) (tgt := 288) (by decide +kernel) (by decide) (fun c157_2 => ?_) (fun c157_2 => ?_)
    · rw [if_pos c157_2] at h
      refine q_pick [0, 1] rfl ?_
      exact t_X10_becomes_288 h k0 k1
    · rw [if_neg c157_2] at h
      have b18 : 0 ≤ Int32.toInt l3 ∧ Int32.toInt l3 < 4000 := by
        by_cases q : 0 ≤ Int32.toInt l3 ∧ Int32.toInt l3 < 4000
        · exact q
        · rw [if_neg q] at h; cases h
      rw [if_pos b18] at h
      refine q_blk2 (pc2 := 167) (ls2 := [(0, .ref 128), (3, .int l3)]) (st2 := [.int (-1), .int (z.1 136 (Int32.toNatClampNeg l3))]) (h2 := (q_K0, z.1, z.2, q_R0)) [(.aload_n 0, 0, 0, 0, 0, 0), (.getfield 32, 0, 9, 21, 0, 0), (.iload_n 3, 0, 0, 0, 0, 0), (.iaload, 0, 0, 0, 0, 0), (.iconst (-1), 0, 0, 0, (-1), 0)] (by decide +kernel) rfl rfl ⟨trivial, rfl, trivial, ⟨_, rfl, vp_in_iff.mpr b18⟩, trivial, trivial⟩ ?_
      refine q_ic_eq (off := 6) (tgt := 173) (by decide +kernel) (by decide) (fun c167_3 => ?_) (fun c167_3 => ?_)
      · rw [if_pos c167_3] at h
        have b19 : 0 ≤ Int32.toInt l3 ∧ Int32.toInt l3 < 4000 := by
          by_cases q : 0 ≤ Int32.toInt l3 ∧ Int32.toInt l3 < 4000
          · exact q
          · rw [if_neg q] at h; cases h
        rw [if_pos b19] at h
        have b20 : 0 ≤ Int32.toInt (z.1 128 23) ∧ Int32.toInt (z.1 128 23) < 1000 := by
          by_cases q : 0 ≤ Int32.toInt (z.1 128 23) ∧ Int32.toInt (z.1 128 23) < 1000
          · exact q
          · rw [if_neg q] at h; cases h
        rw [if_pos b20] at h
        refine q_blk2 (pc2 := 206) (ls2 := [(4, .int l3), (0, .ref 128), (3, .int l3)]) (st2 := []) (h2 := (q_K0, q_u2 (q_u2 z.1 137 (Int32.toNatClampNeg (z.1 128 23)) (z.1 134 (Int32.toNatClampNeg l3))) 138 (Int32.toNatClampNeg (z.1 128 23)) (z.1 135 (Int32.toNatClampNeg l3)), z.2, q_R0)) [(.aload_n 0, 0, 0, 0, 0, 0), (.getfield 35, 0, 9, 24, 0, 0), (.aload_n 0, 0, 0, 0, 0, 0), (.getfield 123, 0, 9, 23, 0, 0), (.aload_n 0, 0, 0, 0, 0, 0), (.getfield 26, 0, 9, 19, 0, 0), (.iload_n 3, 0, 0, 0, 0, 0), (.iaload, 0, 0, 0, 0, 0), (.iastore, 0, 0, 0, 0, 0), (.aload_n 0, 0, 0, 0, 0, 0), (.getfield 38, 0, 9, 25, 0, 0), (.aload_n 0, 0, 0, 0, 0, 0), (.getfield 123, 0, 9, 23, 0, 0), (.aload_n 0, 0, 0, 0, 0, 0), (.getfield 29, 0, 9, 20, 0, 0), (.iload_n 3, 0, 0, 0, 0, 0), (.iaload, 0, 0, 0, 0, 0), (.iastore, 0, 0, 0, 0, 0), (.iload_n 3, 0, 0, 0, 0, 0), (.istore 4, 0, 0, 0, 0, 0)] (by decide +kernel) rfl rfl ⟨trivial, rfl, trivial, rfl, trivial, rfl, trivial, ⟨_, rfl, vp_in_iff.mpr b19⟩, ⟨_, rfl, vp_in_iff.mpr b20⟩, trivial, rfl, trivial, rfl, trivial, rfl, trivial, ⟨_, rfl, vp_in_iff.mpr b19⟩, ⟨_, rfl, vp_in_iff.mpr b20⟩, trivial, trivial, trivial⟩ ?_
        obtain ⟨⟨⟨w33, w34, z32⟩, tg36⟩, hl35, h⟩ := Option.bind_eq_some_iff.mp h
        dsimp only at h
        refine q_pick [1, 2, 0] rfl ?_
        refine q_lp_ok (P := fun s => q_Ex _ 111 206 [(0, .ref 128), (3, .int s.1), (4, .int s.2.1)] [] (q_K0, s.2.2.1, s.2.2.2, q_R0) _ _) (X := fun u s => (u = 0 → q_Ex _ 111 278 [(0, .ref 128), (3, .int s.1), (4, .int s.2.1)] [] (q_K0, s.2.2.1, s.2.2.2, q_R0) _ _)) (fun s s2 t hh k0 kx => b_X10_becomes_206 hh k0 (fun e => (kx 0 e) rfl)) hl35 ?_
        · intro e_tg36
          subst e_tg36
          rw [if_pos rfl] at h
          show q_Ex _ 111 278 [(0, .ref 128), (3, .int w33), (4, .int w34)] [] (q_K0, z32.1, z32.2, q_R0) _ _
          refine q_blk2 (pc2 := 288) (ls2 := [(0, .ref 128), (3, .int w33), (4, .int w34)]) (st2 := []) (h2 := (q_K0, q_u2 z32.1 128 23 ((z32.1 128 23) + 1), z32.2, q_R0)) [(.aload_n 0, 0, 0, 0, 0, 0), (.dup, 0, 0, 0, 0, 0), (.getfield 123, 0, 9, 23, 0, 0), (.iconst 1, 0, 0, 0, 1, 0), (.iadd, 0, 0, 0, 0, 0), (.putfield 123, 0, 9, 23, 0, 0)] (by decide +kernel) rfl rfl ⟨trivial, trivial, rfl, trivial, trivial, ⟨rfl, rfl, rfl⟩, trivial⟩ ?_
          refine q_pick [0, 1] rfl ?_
          exact t_X10_becomes_288 h k0 k1
      · rw [if_neg c167_3] at h
        refine q_goto (off := 118) (tgt := 288) (by decide +kernel) (by decide) ?_
        refine q_pick [0, 1] rfl ?_
        exact t_X10_becomes_288 h k0 k1
def T_X10_becomes_42 (z : q_Z) (t0 : Int32) : Option (Unit × q_Z) :=
  (q_lp (B_X10_becomes_46) q_fu (t0, -t0, z)).bind fun ((w15, w16, z14), tg) =>
    if tg = 0 then
      (q_lp (B_X10_becomes_143) q_fu (0, (q_u2 z14.1 128 23 0, z14.2))).bind fun ((w38, z37), tg) =>
        if tg = 0 then
          some ((), z37)
        else none
    else none
set_option maxRecDepth 100000 in
set_option maxHeartbeats 4000000 in
theorem t_X10_becomes_42 {z zR : q_Z} {t0 : Int32} {rv : Unit} (h : T_X10_becomes_42 z t0 = some (rv, zR)) : q_Ex none 111 42 [(0, .ref 128)] [.int t0] (q_K0, z.1, z.2, q_R0) none (q_K0, zR.1, zR.2, q_R0) := by
  unfold T_X10_becomes_42 at h
  refine q_blk2 (pc2 := 46) (ls2 := [(3, .int (-t0)), (2, .int t0), (0, .ref 128)]) (st2 := []) (h2 := (q_K0, z.1, z.2, q_R0)) [(.istore_n 2, 0, 0, 0, 0, 0), (.iload_n 2, 0, 0, 0, 0, 0), (.ineg, 0, 0, 0, 0, 0), (.istore_n 3, 0, 0, 0, 0, 0)] (by decide +kernel) rfl rfl ⟨trivial, trivial, trivial, trivial, trivial⟩ ?_
  obtain ⟨⟨⟨w15, w16, z14⟩, tg40⟩, hl39, h⟩ := Option.bind_eq_some_iff.mp h
  dsimp only at h
  refine q_pick [2, 1, 0] rfl ?_
  refine q_lp_ok (P := fun s => q_Ex _ 111 46 [(0, .ref 128), (2, .int s.1), (3, .int s.2.1)] [] (q_K0, s.2.2.1, s.2.2.2, q_R0) _ _) (X := fun u s => (u = 0 → q_Ex _ 111 136 [(0, .ref 128), (2, .int s.1), (3, .int s.2.1)] [] (q_K0, s.2.2.1, s.2.2.2, q_R0) _ _)) (fun s s2 t hh k0 kx => b_X10_becomes_46 hh k0 (fun e => (kx 0 e) rfl)) hl39 ?_
  · intro e_tg40
    subst e_tg40
    rw [if_pos rfl] at h
    show q_Ex _ 111 136 [(0, .ref 128), (2, .int w15), (3, .int w16)] [] (q_K0, z14.1, z14.2, q_R0) _ _
    refine q_blk2 (pc2 := 143) (ls2 := [(3, .int 0), (0, .ref 128), (2, .int w15)]) (st2 := []) (h2 := (q_K0, q_u2 z14.1 128 23 0, z14.2, q_R0)) [(.aload_n 0, 0, 0, 0, 0, 0), (.iconst 0, 0, 0, 0, 0, 0), (.putfield 123, 0, 9, 23, 0, 0), (.iconst 0, 0, 0, 0, 0, 0), (.istore_n 3, 0, 0, 0, 0, 0)] (by decide +kernel) rfl rfl ⟨trivial, trivial, ⟨rfl, rfl, rfl⟩, trivial, trivial, trivial⟩ ?_
    obtain ⟨⟨⟨w38, z37⟩, tg42⟩, hl41, h⟩ := Option.bind_eq_some_iff.mp h
    dsimp only at h
    refine q_pick [1, 0] rfl ?_
    refine q_lp_ok (P := fun s => q_Ex _ 111 143 [(0, .ref 128), (3, .int s.1)] [] (q_K0, s.2.1, s.2.2, q_R0) _ _) (X := fun u s => (u = 0 → q_Ex _ 111 294 [(0, .ref 128), (3, .int s.1)] [] (q_K0, s.2.1, s.2.2, q_R0) _ _)) (fun s s2 t hh k0 kx => b_X10_becomes_143 hh k0 (fun e => (kx 0 e) rfl)) hl41 ?_
    · intro e_tg42
      subst e_tg42
      rw [if_pos rfl] at h
      show q_Ex _ 111 294 [(0, .ref 128), (3, .int w38)] [] (q_K0, z37.1, z37.2, q_R0) _ _
      cases h
      exact q_vret rfl (by decide +kernel)
def T_X10_becomes_21 (z : q_Z) (l1 : Int32) (t0 : Int32) : Option (Unit × q_Z) :=
  if l1 ≤ (0 : Int32) then
    T_X10_becomes_42 (q_u2 (q_u2 z.1 128 1 t0) 128 22 0, z.2) 40
  else
    T_X10_becomes_42 (q_u2 (q_u2 z.1 128 1 t0) 128 22 0, z.2) t0
set_option maxRecDepth 100000 in
set_option maxHeartbeats 4000000 in
theorem t_X10_becomes_21 {z zR : q_Z} {l1 : Int32} {t0 : Int32} {rv : Unit} (h : T_X10_becomes_21 z l1 t0 = some (rv, zR)) : q_Ex none 111 21 [(0, .ref 128), (1, .int l1)] [.int t0, .ref 128] (q_K0, z.1, z.2, q_R0) none (q_K0, zR.1, zR.2, q_R0) := by
  unfold T_X10_becomes_21 at h
  refine q_blk2 (pc2 := 30) (ls2 := [(0, .ref 128), (1, .int l1)]) (st2 := [.int l1]) (h2 := (q_K0, q_u2 (q_u2 z.1 128 1 t0) 128 22 0, z.2, q_R0)) [(.putfield 91, 0, 9, 1, 0, 0), (.aload_n 0, 0, 0, 0, 0, 0), (.iconst 0, 0, 0, 0, 0, 0), (.putfield 113, 0, 9, 22, 0, 0), (.iload_n 1, 0, 0, 0, 0, 0)] (by decide +kernel) rfl rfl ⟨⟨rfl, rfl, rfl⟩, trivial, trivial, ⟨rfl, rfl, rfl⟩, trivial, trivial⟩ ?_
  refine q_if_le (off := 10) (tgt := 40) (by decide +kernel) (by decide) (fun c30_1 => ?_) (fun c30_1 => ?_)
  · rw [if_pos c30_1] at h
    refine q_blk2 (pc2 := 42) (ls2 := [(0, .ref 128), (1, .int l1)]) (st2 := [.int 40]) (h2 := (q_K0, q_u2 (q_u2 z.1 128 1 t0) 128 22 0, z.2, q_R0)) [(.bipush 40, 0, 0, 0, 40, 0)] (by decide +kernel) rfl rfl ⟨trivial, trivial⟩ ?_
    refine q_pick [0] rfl ?_
    exact t_X10_becomes_42 h
  · rw [if_neg c30_1] at h
    refine q_blk2 (pc2 := 37) (ls2 := [(0, .ref 128), (1, .int l1)]) (st2 := [.int t0]) (h2 := (q_K0, q_u2 (q_u2 z.1 128 1 t0) 128 22 0, z.2, q_R0)) [(.aload_n 0, 0, 0, 0, 0, 0), (.getfield 91, 0, 9, 1, 0, 0)] (by decide +kernel) rfl rfl ⟨trivial, rfl, trivial⟩ ?_
    refine q_goto (off := 5) (tgt := 42) (by decide +kernel) (by decide) ?_
    refine q_pick [0] rfl ?_
    exact t_X10_becomes_42 h
/-- RootFormsModel.becomes(I)V -/
def F_X10_becomes (z : q_Z) (l1 : Int32) : Option (Unit × q_Z) :=
  if l1 ≤ (0 : Int32) then
    T_X10_becomes_21 (q_u2 z.1 128 0 l1, z.2) l1 0
  else
    (F_X10_root0 (q_u2 z.1 128 0 l1, z.2) (Int32.toInt64 l1)).bind fun (r43, z44) =>
      T_X10_becomes_21 z44 l1 (Int64.toInt32 r43)
set_option maxRecDepth 100000 in
set_option maxHeartbeats 4000000 in
theorem s_X10_becomes {z zR : q_Z} {l1 : Int32} {rv : Unit} (h : F_X10_becomes z l1 = some (rv, zR)) : q_Ca 111 [.ref 128, .int l1] (q_K0, z.1, z.2, q_R0) none (q_K0, zR.1, zR.2, q_R0) := by
  refine q_Ca_of (by decide) (Nat.le_of_ble_eq_true rfl) ?_
  show q_Ex none 111 0 [(0, .ref 128), (1, .int l1)] [] (q_K0, z.1, z.2, q_R0) _ _
  unfold F_X10_becomes at h
  refine q_blk2 (pc2 := 7) (ls2 := [(0, .ref 128), (1, .int l1)]) (st2 := [.int l1, .ref 128]) (h2 := (q_K0, q_u2 z.1 128 0 l1, z.2, q_R0)) [(.aload_n 0, 0, 0, 0, 0, 0), (.iload_n 1, 0, 0, 0, 0, 0), (.putfield 82, 0, 9, 0, 0, 0), (.aload_n 0, 0, 0, 0, 0, 0), (.iload_n 1, 0, 0, 0, 0, 0)] (by decide +kernel) rfl rfl ⟨trivial, trivial, ⟨rfl, rfl, rfl⟩, trivial, trivial, trivial⟩ ?_
  refine q_if_le (off := 13) (tgt := 20) (by decide +kernel) (by decide) (fun c7_1 => ?_) (fun c7_1 => ?_)
  · rw [if_pos c7_1] at h
    refine q_blk2 (pc2 := 21) (ls2 := [(0, .ref 128), (1, .int l1)]) (st2 := [.int 0, .ref 128]) (h2 := (q_K0, q_u2 z.1 128 0 l1, z.2, q_R0)) [(.iconst 0, 0, 0, 0, 0, 0)] (by decide +kernel) rfl rfl ⟨trivial, trivial⟩ ?_
    refine q_pick [0, 1] rfl ?_
    exact t_X10_becomes_21 h
  · rw [if_neg c7_1] at h
    refine q_blk2 (pc2 := 13) (ls2 := [(0, .ref 128), (1, .int l1)]) (st2 := [.long (Int32.toInt64 l1), .ref 128, .ref 128]) (h2 := (q_K0, q_u2 z.1 128 0 l1, z.2, q_R0)) [(.aload_n 0, 0, 0, 0, 0, 0), (.iload_n 1, 0, 0, 0, 0, 0), (.i2l, 0, 0, 0, 0, 0)] (by decide +kernel) rfl rfl ⟨trivial, trivial, trivial, trivial⟩ ?_
    obtain ⟨⟨r43, z44⟩, hc45, h⟩ := Option.bind_eq_some_iff.mp h
    dsimp only at h
    refine q_cV1 (idx := 116) (v := .long r43) (h1 := (q_K0, z44.1, z44.2, q_R0)) [.long (Int32.toInt64 l1), .ref 128, .ref 128] 102 128 9 [.long (Int32.toInt64 l1)] [.ref 128] rfl (by decide +kernel) (by decide +kernel) rfl (Nat.le_of_ble_eq_true rfl) rfl (by decide) (by decide +kernel) (by decide +kernel) (s_X10_root0 hc45) ?_
    refine q_blk2 (pc2 := 17) (ls2 := [(0, .ref 128), (1, .int l1)]) (st2 := [.int (Int64.toInt32 r43), .ref 128]) (h2 := (q_K0, z44.1, z44.2, q_R0)) [(.l2i, 0, 0, 0, 0, 0)] (by decide +kernel) rfl rfl ⟨trivial, trivial⟩ ?_
    refine q_goto (off := 4) (tgt := 21) (by decide +kernel) (by decide) ?_
    refine q_pick [0, 1] rfl ?_
    exact t_X10_becomes_21 h
/-- RootFormsModel.classHere()I -/
def F_X10_classHere (z : q_Z) : Option (Int32 × q_Z) :=
  (F_X10_reduces z).bind fun (r1, z2) =>
    (F_X10_indexOf z2 (z2.2 128 12) (z2.2 128 13)).bind fun (r3, z4) =>
      if 0 ≤ Int32.toInt r3 ∧ Int32.toInt r3 < 4000 then
        some (z4.1 136 (Int32.toNatClampNeg r3), z4)
      else none
set_option maxRecDepth 100000 in
set_option maxHeartbeats 4000000 in
theorem s_X10_classHere {z zR : q_Z} {rv : Int32} (h : F_X10_classHere z = some (rv, zR)) : q_Ca 112 [.ref 128] (q_K0, z.1, z.2, q_R0) (some (.int rv)) (q_K0, zR.1, zR.2, q_R0) := by
  refine q_Ca_of (by decide) (Nat.le_of_ble_eq_true rfl) ?_
  show q_Ex none 112 0 [(0, .ref 128)] [] (q_K0, z.1, z.2, q_R0) _ _
  unfold F_X10_classHere at h
  refine q_blk2 (pc2 := 1) (ls2 := [(0, .ref 128)]) (st2 := [.ref 128]) (h2 := (q_K0, z.1, z.2, q_R0)) [(.aload_n 0, 0, 0, 0, 0, 0)] (by decide +kernel) rfl rfl ⟨trivial, trivial⟩ ?_
  obtain ⟨⟨r1, z2⟩, hc6, h⟩ := Option.bind_eq_some_iff.mp h
  dsimp only at h
  refine q_cV1 (idx := 130) (v := .int r1) (h1 := (q_K0, z2.1, z2.2, q_R0)) [.ref 128] 109 128 9 [] [] rfl (by decide +kernel) (by decide +kernel) rfl (Nat.le_of_ble_eq_true rfl) rfl (by decide) (by decide +kernel) (by decide +kernel) (s_X10_reduces hc6) ?_
  refine q_blk2 (pc2 := 18) (ls2 := [(1, .int r1), (0, .ref 128)]) (st2 := [.long (z2.2 128 13), .long (z2.2 128 12), .ref 128, .ref 136]) (h2 := (q_K0, z2.1, z2.2, q_R0)) [(.istore_n 1, 0, 0, 0, 0, 0), (.aload_n 0, 0, 0, 0, 0, 0), (.getfield 32, 0, 9, 21, 0, 0), (.aload_n 0, 0, 0, 0, 0, 0), (.aload_n 0, 0, 0, 0, 0, 0), (.getfield 72, 0, 9, 12, 0, 0), (.aload_n 0, 0, 0, 0, 0, 0), (.getfield 76, 0, 9, 13, 0, 0)] (by decide +kernel) rfl rfl ⟨trivial, trivial, rfl, trivial, trivial, rfl, trivial, rfl, trivial⟩ ?_
  obtain ⟨⟨r3, z4⟩, hc7, h⟩ := Option.bind_eq_some_iff.mp h
  dsimp only at h
  refine q_cV1 (idx := 126) (v := .int r3) (h1 := (q_K0, z4.1, z4.2, q_R0)) [.long (z2.2 128 13), .long (z2.2 128 12), .ref 128, .ref 136] 110 128 9 [.long (z2.2 128 12), .long (z2.2 128 13)] [.ref 136] rfl (by decide +kernel) (by decide +kernel) rfl (Nat.le_of_ble_eq_true rfl) rfl (by decide) (by decide +kernel) (by decide +kernel) (s_X10_indexOf hc7) ?_
  have b5 : 0 ≤ Int32.toInt r3 ∧ Int32.toInt r3 < 4000 := by
    by_cases q : 0 ≤ Int32.toInt r3 ∧ Int32.toInt r3 < 4000
    · exact q
    · rw [if_neg q] at h; cases h
  rw [if_pos b5] at h
  refine q_blk2 (pc2 := 22) (ls2 := [(1, .int r1), (0, .ref 128)]) (st2 := [.int (z4.1 136 (Int32.toNatClampNeg r3))]) (h2 := (q_K0, z4.1, z4.2, q_R0)) [(.iaload, 0, 0, 0, 0, 0)] (by decide +kernel) rfl rfl ⟨⟨_, rfl, vp_in_iff.mpr b5⟩, trivial⟩ ?_
  cases h
  exact q_iret .int rfl rfl (by decide +kernel)
