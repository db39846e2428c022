/-! pure functions of the methods, and that the methods do what they say (written by wip/whole/dec.py) -/
/-- RootForms$Form.put(JJJ)V -/
def F_X1_put (o0 : Nat) (z : q_Z) (l1 : Int64) (l3 : Int64) (l5 : Int64) : Option (Unit × q_Z) :=
  some ((), (z.1, q_u2 (q_u2 (q_u2 z.2 o0 0 l1) o0 1 l3) o0 2 l5))
set_option maxRecDepth 100000 in
set_option maxHeartbeats 4000000 in
theorem s_X1_put {o0 : Nat} (ho0 : q_kk o0 = some (.inl 1)) {z zR : q_Z} {l1 : Int64} {l3 : Int64} {l5 : Int64} {rv : Unit} (h : F_X1_put o0 z l1 l3 l5 = some (rv, zR)) : q_Ca 12 [.ref o0, .long l1, .long l3, .long l5] (q_K0, z.1, z.2, q_R0) none (q_K0, zR.1, zR.2, q_R0) := by
  refine q_Ca_of (by decide) (Nat.le_of_ble_eq_true rfl) ?_
  show q_Ex none 12 0 [(0, .ref o0), (1, .long l1), (3, .long l3), (5, .long l5)] [] (q_K0, z.1, z.2, q_R0) _ _
  unfold F_X1_put at h
  refine q_blk2 (pc2 := 16) (ls2 := [(0, .ref o0), (1, .long l1), (3, .long l3), (5, .long l5)]) (st2 := []) (h2 := (q_K0, z.1, q_u2 (q_u2 (q_u2 z.2 o0 0 l1) o0 1 l3) o0 2 l5, q_R0)) [(.aload_n 0, 0, 0, 0, 0, 0), (.lload_n 1, 0, 0, 0, 0, 0), (.putfield 7, 0, 1, 0, 0, 0), (.aload_n 0, 0, 0, 0, 0, 0), (.lload_n 3, 0, 0, 0, 0, 0), (.putfield 13, 0, 1, 1, 0, 0), (.aload_n 0, 0, 0, 0, 0, 0), (.lload 5, 0, 0, 0, 0, 0), (.putfield 16, 0, 1, 2, 0, 0)] (by decide +kernel) rfl rfl ⟨trivial, trivial, ho0, trivial, trivial, ho0, trivial, trivial, ho0, trivial⟩ ?_
  cases h
  exact q_vret rfl (by decide +kernel)
def T_X2_complete_43 (z : q_Z) : Option (Int32 × q_Z) :=
  some (0, z)
set_option maxRecDepth 100000 in
set_option maxHeartbeats 4000000 in
theorem t_X2_complete_43 {z zR : q_Z} {rv : Int32} (h : T_X2_complete_43 z = some (rv, zR)) : q_Ex none 19 43 [] [] (q_K0, z.1, z.2, q_R0) (some (.int rv)) (q_K0, zR.1, zR.2, q_R0) := by
  unfold T_X2_complete_43 at h
  refine q_blk2 (pc2 := 44) (ls2 := []) (st2 := [.int 0]) (h2 := (q_K0, z.1, z.2, q_R0)) [(.iconst 0, 0, 0, 0, 0, 0)] (by decide +kernel) rfl rfl ⟨trivial, trivial⟩ ?_
  cases h
  exact q_iret .boolean rfl rfl (by decide +kernel)
def T_X2_complete_30 (o5 : Nat) (z : q_Z) (l1 : Int64) (l3 : Int64) (l6 : Int64) : Option (Int32 × q_Z) :=
  if ¬ (4 * l1) = (0 : Int64) then
    if (l6 - l6 / (4 * l1) * (4 * l1)) = (0 : Int64) then
      if ¬ (4 * l1) = (0 : Int64) then
        (F_X1_put o5 z l1 l3 (l6 / (4 * l1))).bind fun (_, z4) =>
          (F_X7_commonDivisor z4 l1 l3).bind fun (r5, z6) =>
            (F_X7_commonDivisor z6 r5 (l6 / (4 * l1))).bind fun (r7, z8) =>
              if r7 = (1 : Int64) then
                some (1, z8)
              else
                some (0, z8)
      else none
    else
      T_X2_complete_43 z
  else none
set_option maxRecDepth 100000 in
set_option maxHeartbeats 4000000 in
theorem t_X2_complete_30 {o5 : Nat} (ho5 : q_kk o5 = some (.inl 1)) {z zR : q_Z} {l1 : Int64} {l3 : Int64} {l6 : Int64} {rv : Int32} (h : T_X2_complete_30 o5 z l1 l3 l6 = some (rv, zR)) : q_Ex none 19 30 [(1, .long l1), (3, .long l3), (5, .ref o5), (6, .long l6)] [] (q_K0, z.1, z.2, q_R0) (some (.int rv)) (q_K0, zR.1, zR.2, q_R0) := by
  unfold T_X2_complete_30 at h
  have b1 : ¬ (4 * l1) = (0 : Int64) := by
    by_cases q : ¬ (4 * l1) = (0 : Int64)
    · exact q
    · rw [if_neg q] at h; cases h
  rw [if_pos b1] at h
  refine q_blk2 (pc2 := 39) (ls2 := [(1, .long l1), (3, .long l3), (5, .ref o5), (6, .long l6)]) (st2 := [.long 0, .long (l6 - l6 / (4 * l1) * (4 * l1))]) (h2 := (q_K0, z.1, z.2, q_R0)) [(.lload 6, 0, 0, 0, 0, 0), (.ldc2_w 34, 0, 0, 0, 0, 4), (.lload_n 1, 0, 0, 0, 0, 0), (.lmul, 0, 0, 0, 0, 0), (.lrem, 0, 0, 0, 0, 0), (.lconst 0, 0, 0, 0, 0, 0)] (by decide +kernel) rfl rfl ⟨trivial, trivial, trivial, trivial, b1, trivial, trivial⟩ ?_
  refine q_lc_eq (off := 5) (tgt := 45) (by decide +kernel) (by decide +kernel) (by decide) (fun c39_1 => ?_) (fun c39_1 => ?_)
  · rw [if_pos c39_1] at h
    have b2 : ¬ (4 * l1) = (0 : Int64) := by
      by_cases q : ¬ (4 * l1) = (0 : Int64)
      · exact q
      · rw [if_neg q] at h; cases h
    rw [if_pos b2] at h
    refine q_blk2 (pc2 := 61) (ls2 := [(8, .long (l6 / (4 * l1))), (1, .long l1), (3, .long l3), (5, .ref o5), (6, .long l6)]) (st2 := [.long (l6 / (4 * l1)), .long l3, .long l1, .ref o5]) (h2 := (q_K0, z.1, z.2, q_R0)) [(.lload 6, 0, 0, 0, 0, 0), (.ldc2_w 34, 0, 0, 0, 0, 4), (.lload_n 1, 0, 0, 0, 0, 0), (.lmul, 0, 0, 0, 0, 0), (.ldiv, 0, 0, 0, 0, 0), (.lstore 8, 0, 0, 0, 0, 0), (.aload 5, 0, 0, 0, 0, 0), (.lload_n 1, 0, 0, 0, 0, 0), (.lload_n 3, 0, 0, 0, 0, 0), (.lload 8, 0, 0, 0, 0, 0)] (by decide +kernel) rfl rfl ⟨trivial, trivial, trivial, trivial, b2, trivial, trivial, trivial, trivial, trivial, trivial⟩ ?_
    obtain ⟨⟨_, z4⟩, hc9, h⟩ := Option.bind_eq_some_iff.mp h
    dsimp only at h
    refine q_cV0 (idx := 36) (h1 := (q_K0, z4.1, z4.2, q_R0)) [.long (l6 / (4 * l1)), .long l3, .long l1, .ref o5] 12 o5 1 [.long l1, .long l3, .long (l6 / (4 * l1))] [] rfl (by decide +kernel) (by decide +kernel) rfl (Nat.le_of_ble_eq_true rfl) ho5 (by decide) (by decide +kernel) (by decide +kernel) (s_X1_put ho5 hc9) ?_
    refine q_blk2 (pc2 := 66) (ls2 := [(8, .long (l6 / (4 * l1))), (1, .long l1), (3, .long l3), (5, .ref o5), (6, .long l6)]) (st2 := [.long l3, .long l1]) (h2 := (q_K0, z4.1, z4.2, q_R0)) [(.lload_n 1, 0, 0, 0, 0, 0), (.lload_n 3, 0, 0, 0, 0, 0)] (by decide +kernel) rfl rfl ⟨trivial, trivial, trivial⟩ ?_
    obtain ⟨⟨r5, z6⟩, hc10, h⟩ := Option.bind_eq_some_iff.mp h
    dsimp only at h
    refine q_cS1 (idx := 42) (v := .long r5) (h1 := (q_K0, z6.1, z6.2, q_R0)) [.long l3, .long l1] 50 [.long l1, .long l3] [] rfl (by decide +kernel) (by decide +kernel) rfl (Nat.le_of_ble_eq_true rfl) (by decide +kernel) (s_X7_commonDivisor hc10) ?_
    refine q_blk2 (pc2 := 71) (ls2 := [(8, .long (l6 / (4 * l1))), (1, .long l1), (3, .long l3), (5, .ref o5), (6, .long l6)]) (st2 := [.long (l6 / (4 * l1)), .long r5]) (h2 := (q_K0, z6.1, z6.2, q_R0)) [(.lload 8, 0, 0, 0, 0, 0)] (by decide +kernel) rfl rfl ⟨trivial, trivial⟩ ?_
    obtain ⟨⟨r7, z8⟩, hc11, h⟩ := Option.bind_eq_some_iff.mp h
    dsimp only at h
    refine q_cS1 (idx := 42) (v := .long r7) (h1 := (q_K0, z8.1, z8.2, q_R0)) [.long (l6 / (4 * l1)), .long r5] 50 [.long r5, .long (l6 / (4 * l1))] [] rfl (by decide +kernel) (by decide +kernel) rfl (Nat.le_of_ble_eq_true rfl) (by decide +kernel) (s_X7_commonDivisor hc11) ?_
    refine q_blk2 (pc2 := 75) (ls2 := [(8, .long (l6 / (4 * l1))), (1, .long l1), (3, .long l3), (5, .ref o5), (6, .long l6)]) (st2 := [.long 1, .long r7]) (h2 := (q_K0, z8.1, z8.2, q_R0)) [(.lconst 1, 0, 0, 0, 0, 1)] (by decide +kernel) rfl rfl ⟨trivial, trivial⟩ ?_
    refine q_lc_ne (off := 7) (tgt := 83) (by decide +kernel) (by decide +kernel) (by decide) (fun c75_2 => ?_) (fun c75_2 => ?_)
    · rw [if_neg c75_2] at h
      refine q_blk2 (pc2 := 84) (ls2 := [(8, .long (l6 / (4 * l1))), (1, .long l1), (3, .long l3), (5, .ref o5), (6, .long l6)]) (st2 := [.int 0]) (h2 := (q_K0, z8.1, z8.2, q_R0)) [(.iconst 0, 0, 0, 0, 0, 0)] (by decide +kernel) rfl rfl ⟨trivial, trivial⟩ ?_
      cases h
      exact q_iret .boolean rfl rfl (by decide +kernel)
    · rw [if_pos c75_2] at h
      refine q_blk2 (pc2 := 80) (ls2 := [(8, .long (l6 / (4 * l1))), (1, .long l1), (3, .long l3), (5, .ref o5), (6, .long l6)]) (st2 := [.int 1]) (h2 := (q_K0, z8.1, z8.2, q_R0)) [(.iconst 1, 0, 0, 0, 1, 0)] (by decide +kernel) rfl rfl ⟨trivial, trivial⟩ ?_
      refine q_goto (off := 4) (tgt := 84) (by decide +kernel) (by decide) ?_
      cases h
      exact q_iret .boolean rfl rfl (by decide +kernel)
  · rw [if_neg c39_1] at h
    refine q_pick [] rfl ?_
    exact t_X2_complete_43 h
/-- RootForms$Ground.complete(JJLRootForms$Form;)Z -/
def F_X2_complete (o5 : Nat) (z : q_Z) (l1 : Int64) (l3 : Int64) : Option (Int32 × q_Z) :=
  if l1 = (0 : Int64) then
    T_X2_complete_43 z
  else
    if (0 : Int32) ≤ (z.1 4 0) then
      T_X2_complete_30 o5 z l1 l3 ((l3 * l3) - (Int32.toInt64 (z.1 4 0)))
    else
      if l1 < (0 : Int64) then
        T_X2_complete_43 z
      else
        T_X2_complete_30 o5 z l1 l3 ((l3 * l3) - (Int32.toInt64 (z.1 4 0)))
set_option maxRecDepth 100000 in
set_option maxHeartbeats 4000000 in
theorem s_X2_complete {o5 : Nat} (ho5 : q_kk o5 = some (.inl 1)) {z zR : q_Z} {l1 : Int64} {l3 : Int64} {rv : Int32} (h : F_X2_complete o5 z l1 l3 = some (rv, zR)) : q_Ca 19 [.ref 4, .long l1, .long l3, .ref o5] (q_K0, z.1, z.2, q_R0) (some (.int rv)) (q_K0, zR.1, zR.2, q_R0) := by
  refine q_Ca_of (by decide) (Nat.le_of_ble_eq_true rfl) ?_
  show q_Ex none 19 0 [(0, .ref 4), (1, .long l1), (3, .long l3), (5, .ref o5)] [] (q_K0, z.1, z.2, q_R0) _ _
  unfold F_X2_complete at h
  refine q_blk2 (pc2 := 13) (ls2 := [(6, .long ((l3 * l3) - (Int32.toInt64 (z.1 4 0)))), (0, .ref 4), (1, .long l1), (3, .long l3), (5, .ref o5)]) (st2 := [.long 0, .long l1]) (h2 := (q_K0, z.1, z.2, q_R0)) [(.lload_n 3, 0, 0, 0, 0, 0), (.lload_n 3, 0, 0, 0, 0, 0), (.lmul, 0, 0, 0, 0, 0), (.aload_n 0, 0, 0, 0, 0, 0), (.getfield 9, 0, 2, 0, 0, 0), (.i2l, 0, 0, 0, 0, 0), (.lsub, 0, 0, 0, 0, 0), (.lstore 6, 0, 0, 0, 0, 0), (.lload_n 1, 0, 0, 0, 0, 0), (.lconst 0, 0, 0, 0, 0, 0)] (by decide +kernel) rfl rfl ⟨trivial, trivial, trivial, trivial, rfl, trivial, trivial, trivial, trivial, trivial, trivial⟩ ?_
  refine q_lc_eq (off := 29) (tgt := 43) (by decide +kernel) (by decide +kernel) (by decide) (fun c13_1 => ?_) (fun c13_1 => ?_)
  · rw [if_pos c13_1] at h
    refine q_pick [] rfl ?_
    exact t_X2_complete_43 h
  · rw [if_neg c13_1] at h
    refine q_blk2 (pc2 := 21) (ls2 := [(6, .long ((l3 * l3) - (Int32.toInt64 (z.1 4 0)))), (0, .ref 4), (1, .long l1), (3, .long l3), (5, .ref o5)]) (st2 := [.int (z.1 4 0)]) (h2 := (q_K0, z.1, z.2, q_R0)) [(.aload_n 0, 0, 0, 0, 0, 0), (.getfield 9, 0, 2, 0, 0, 0)] (by decide +kernel) rfl rfl ⟨trivial, rfl, trivial⟩ ?_
    refine q_if_ge (off := 9) (tgt := 30) (by decide +kernel) (by decide) (fun c21_2 => ?_) (fun c21_2 => ?_)
    · rw [if_pos c21_2] at h
      refine q_pick [2, 3, 4, 0] rfl ?_
      exact t_X2_complete_30 ho5 h
    · rw [if_neg c21_2] at h
      refine q_blk2 (pc2 := 26) (ls2 := [(6, .long ((l3 * l3) - (Int32.toInt64 (z.1 4 0)))), (0, .ref 4), (1, .long l1), (3, .long l3), (5, .ref o5)]) (st2 := [.long 0, .long l1]) (h2 := (q_K0, z.1, z.2, q_R0)) [(.lload_n 1, 0, 0, 0, 0, 0), (.lconst 0, 0, 0, 0, 0, 0)] (by decide +kernel) rfl rfl ⟨trivial, trivial, trivial⟩ ?_
      refine q_lc_lt (off := 16) (tgt := 43) (by decide +kernel) (by decide +kernel) (by decide) (fun c26_3 => ?_) (fun c26_3 => ?_)
      · rw [if_pos c26_3] at h
        refine q_pick [] rfl ?_
        exact t_X2_complete_43 h
      · rw [if_neg c26_3] at h
        refine q_pick [2, 3, 4, 0] rfl ?_
        exact t_X2_complete_30 ho5 h
def T_X2_isLeast_135 (z : q_Z) : Option (Int32 × q_Z) :=
  some (0, z)
set_option maxRecDepth 100000 in
set_option maxHeartbeats 4000000 in
theorem t_X2_isLeast_135 {z zR : q_Z} {rv : Int32} (h : T_X2_isLeast_135 z = some (rv, zR)) : q_Ex none 20 135 [] [] (q_K0, z.1, z.2, q_R0) (some (.int rv)) (q_K0, zR.1, zR.2, q_R0) := by
  unfold T_X2_isLeast_135 at h
  refine q_blk2 (pc2 := 136) (ls2 := []) (st2 := [.int 0]) (h2 := (q_K0, z.1, z.2, q_R0)) [(.iconst 0, 0, 0, 0, 0, 0)] (by decide +kernel) rfl rfl ⟨trivial, trivial⟩ ?_
  cases h
  exact q_iret .boolean rfl rfl (by decide +kernel)
def T_X2_isLeast_131 (z : q_Z) : Option (Int32 × q_Z) :=
  some (1, z)
set_option maxRecDepth 100000 in
set_option maxHeartbeats 4000000 in
theorem t_X2_isLeast_131 {z zR : q_Z} {rv : Int32} (h : T_X2_isLeast_131 z = some (rv, zR)) : q_Ex none 20 131 [] [] (q_K0, z.1, z.2, q_R0) (some (.int rv)) (q_K0, zR.1, zR.2, q_R0) := by
  unfold T_X2_isLeast_131 at h
  refine q_blk2 (pc2 := 132) (ls2 := []) (st2 := [.int 1]) (h2 := (q_K0, z.1, z.2, q_R0)) [(.iconst 1, 0, 0, 0, 1, 0)] (by decide +kernel) rfl rfl ⟨trivial, trivial⟩ ?_
  refine q_goto (off := 4) (tgt := 136) (by decide +kernel) (by decide) ?_
  cases h
  exact q_iret .boolean rfl rfl (by decide +kernel)
def T_X2_isLeast_79 (z : q_Z) : Option (Int32 × q_Z) :=
  some (0, z)
set_option maxRecDepth 100000 in
set_option maxHeartbeats 4000000 in
theorem t_X2_isLeast_79 {z zR : q_Z} {rv : Int32} (h : T_X2_isLeast_79 z = some (rv, zR)) : q_Ex none 20 79 [] [] (q_K0, z.1, z.2, q_R0) (some (.int rv)) (q_K0, zR.1, zR.2, q_R0) := by
  unfold T_X2_isLeast_79 at h
  refine q_blk2 (pc2 := 80) (ls2 := []) (st2 := [.int 0]) (h2 := (q_K0, z.1, z.2, q_R0)) [(.iconst 0, 0, 0, 0, 0, 0)] (by decide +kernel) rfl rfl ⟨trivial, trivial⟩ ?_
  cases h
  exact q_iret .boolean rfl rfl (by decide +kernel)
/-- RootForms$Ground.isLeast(LRootForms$Form;)Z -/
def F_X2_isLeast (o1 : Nat) (z : q_Z) : Option (Int32 × q_Z) :=
  (F_J9_abs_067f4 z (z.2 o1 0)).bind fun (r1, z2) =>
    if (z2.1 4 0) ≤ (0 : Int32) then
      (F_J9_abs_067f4 z2 (z2.2 o1 1)).bind fun (r3, z4) =>
        if r1 < r3 then
          T_X2_isLeast_135 z4
        else
          if (z4.2 o1 2) < r1 then
            T_X2_isLeast_135 z4
          else
            if (0 : Int64) ≤ (z4.2 o1 1) then
              T_X2_isLeast_131 z4
            else
              if r3 = r1 then
                T_X2_isLeast_135 z4
              else
                if r1 = (z4.2 o1 2) then
                  T_X2_isLeast_135 z4
                else
                  T_X2_isLeast_131 z4
    else
      if (z2.2 o1 1) ≤ (0 : Int64) then
        T_X2_isLeast_79 z2
      else
        if (Int32.toInt64 (z2.1 4 1)) < (z2.2 o1 1) then
          T_X2_isLeast_79 z2
        else
          if (2 * r1) ≤ ((Int32.toInt64 (z2.1 4 1)) - (z2.2 o1 1)) then
            T_X2_isLeast_79 z2
          else
            if ((Int32.toInt64 (z2.1 4 1)) + (z2.2 o1 1)) < (2 * r1) then
              T_X2_isLeast_79 z2
            else
              some (1, z2)
set_option maxRecDepth 100000 in
set_option maxHeartbeats 4000000 in
theorem s_X2_isLeast {o1 : Nat} (ho1 : q_kk o1 = some (.inl 1)) {z zR : q_Z} {rv : Int32} (h : F_X2_isLeast o1 z = some (rv, zR)) : q_Ca 20 [.ref 4, .ref o1] (q_K0, z.1, z.2, q_R0) (some (.int rv)) (q_K0, zR.1, zR.2, q_R0) := by
  refine q_Ca_of (by decide) (Nat.le_of_ble_eq_true rfl) ?_
  show q_Ex none 20 0 [(0, .ref 4), (1, .ref o1)] [] (q_K0, z.1, z.2, q_R0) _ _
  unfold F_X2_isLeast at h
  refine q_blk2 (pc2 := 4) (ls2 := [(0, .ref 4), (1, .ref o1)]) (st2 := [.long (z.2 o1 0)]) (h2 := (q_K0, z.1, z.2, q_R0)) [(.aload_n 1, 0, 0, 0, 0, 0), (.getfield 46, 0, 1, 0, 0, 0)] (by decide +kernel) rfl rfl ⟨trivial, ho1, trivial⟩ ?_
  obtain ⟨⟨r1, z2⟩, hc5, h⟩ := Option.bind_eq_some_iff.mp h
  dsimp only at h
  refine q_cS1 (idx := 50) (v := .long r1) (h1 := (q_K0, z2.1, z2.2, q_R0)) [.long (z.2 o1 0)] 160 [.long (z.2 o1 0)] [] rfl (by decide +kernel) (by decide +kernel) rfl (Nat.le_of_ble_eq_true rfl) (by decide +kernel) (s_J9_abs_067f4 hc5) ?_
  refine q_blk2 (pc2 := 12) (ls2 := [(2, .long r1), (0, .ref 4), (1, .ref o1)]) (st2 := [.int (z2.1 4 0)]) (h2 := (q_K0, z2.1, z2.2, q_R0)) [(.lstore_n 2, 0, 0, 0, 0, 0), (.aload_n 0, 0, 0, 0, 0, 0), (.getfield 9, 0, 2, 0, 0, 0)] (by decide +kernel) rfl rfl ⟨trivial, trivial, rfl, trivial⟩ ?_
  refine q_if_le (off := 69) (tgt := 81) (by decide +kernel) (by decide) (fun c12_1 => ?_) (fun c12_1 => ?_)
  · rw [if_pos c12_1] at h
    refine q_blk2 (pc2 := 85) (ls2 := [(2, .long r1), (0, .ref 4), (1, .ref o1)]) (st2 := [.long (z2.2 o1 1)]) (h2 := (q_K0, z2.1, z2.2, q_R0)) [(.aload_n 1, 0, 0, 0, 0, 0), (.getfield 53, 0, 1, 1, 0, 0)] (by decide +kernel) rfl rfl ⟨trivial, ho1, trivial⟩ ?_
    obtain ⟨⟨r3, z4⟩, hc6, h⟩ := Option.bind_eq_some_iff.mp h
    dsimp only at h
    refine q_cS1 (idx := 50) (v := .long r3) (h1 := (q_K0, z4.1, z4.2, q_R0)) [.long (z2.2 o1 1)] 160 [.long (z2.2 o1 1)] [] rfl (by decide +kernel) (by decide +kernel) rfl (Nat.le_of_ble_eq_true rfl) (by decide +kernel) (s_J9_abs_067f4 hc6) ?_
    refine q_blk2 (pc2 := 93) (ls2 := [(4, .long r3), (2, .long r1), (0, .ref 4), (1, .ref o1)]) (st2 := [.long r1, .long r3]) (h2 := (q_K0, z4.1, z4.2, q_R0)) [(.lstore 4, 0, 0, 0, 0, 0), (.lload 4, 0, 0, 0, 0, 0), (.lload_n 2, 0, 0, 0, 0, 0)] (by decide +kernel) rfl rfl ⟨trivial, trivial, trivial, trivial⟩ ?_
    refine q_lc_gt (off := 41) (tgt := 135) (by decide +kernel) (by decide +kernel) (by decide) (fun c93_2 => ?_) (fun c93_2 => ?_)
    · rw [if_pos c93_2] at h
      refine q_pick [] rfl ?_
      exact t_X2_isLeast_135 h
    · rw [if_neg c93_2] at h
      refine q_blk2 (pc2 := 102) (ls2 := [(4, .long r3), (2, .long r1), (0, .ref 4), (1, .ref o1)]) (st2 := [.long (z4.2 o1 2), .long r1]) (h2 := (q_K0, z4.1, z4.2, q_R0)) [(.lload_n 2, 0, 0, 0, 0, 0), (.aload_n 1, 0, 0, 0, 0, 0), (.getfield 58, 0, 1, 2, 0, 0)] (by decide +kernel) rfl rfl ⟨trivial, trivial, ho1, trivial⟩ ?_
      refine q_lc_gt (off := 32) (tgt := 135) (by decide +kernel) (by decide +kernel) (by decide) (fun c102_3 => ?_) (fun c102_3 => ?_)
      · rw [if_pos c102_3] at h
        refine q_pick [] rfl ?_
        exact t_X2_isLeast_135 h
      · rw [if_neg c102_3] at h
        refine q_blk2 (pc2 := 111) (ls2 := [(4, .long r3), (2, .long r1), (0, .ref 4), (1, .ref o1)]) (st2 := [.long 0, .long (z4.2 o1 1)]) (h2 := (q_K0, z4.1, z4.2, q_R0)) [(.aload_n 1, 0, 0, 0, 0, 0), (.getfield 53, 0, 1, 1, 0, 0), (.lconst 0, 0, 0, 0, 0, 0)] (by decide +kernel) rfl rfl ⟨trivial, ho1, trivial, trivial⟩ ?_
        refine q_lc_ge (off := 19) (tgt := 131) (by decide +kernel) (by decide +kernel) (by decide) (fun c111_4 => ?_) (fun c111_4 => ?_)
        · rw [if_pos c111_4] at h
          refine q_pick [] rfl ?_
          exact t_X2_isLeast_131 h
        · rw [if_neg c111_4] at h
          refine q_blk2 (pc2 := 118) (ls2 := [(4, .long r3), (2, .long r1), (0, .ref 4), (1, .ref o1)]) (st2 := [.long r1, .long r3]) (h2 := (q_K0, z4.1, z4.2, q_R0)) [(.lload 4, 0, 0, 0, 0, 0), (.lload_n 2, 0, 0, 0, 0, 0)] (by decide +kernel) rfl rfl ⟨trivial, trivial, trivial⟩ ?_
          refine q_lc_eq (off := 16) (tgt := 135) (by decide +kernel) (by decide +kernel) (by decide) (fun c118_5 => ?_) (fun c118_5 => ?_)
          · rw [if_pos c118_5] at h
            refine q_pick [] rfl ?_
            exact t_X2_isLeast_135 h
          · rw [if_neg c118_5] at h
            refine q_blk2 (pc2 := 127) (ls2 := [(4, .long r3), (2, .long r1), (0, .ref 4), (1, .ref o1)]) (st2 := [.long (z4.2 o1 2), .long r1]) (h2 := (q_K0, z4.1, z4.2, q_R0)) [(.lload_n 2, 0, 0, 0, 0, 0), (.aload_n 1, 0, 0, 0, 0, 0), (.getfield 58, 0, 1, 2, 0, 0)] (by decide +kernel) rfl rfl ⟨trivial, trivial, ho1, trivial⟩ ?_
            refine q_lc_eq (off := 7) (tgt := 135) (by decide +kernel) (by decide +kernel) (by decide) (fun c127_6 => ?_) (fun c127_6 => ?_)
            · rw [if_pos c127_6] at h
              refine q_pick [] rfl ?_
              exact t_X2_isLeast_135 h
            · rw [if_neg c127_6] at h
              refine q_pick [] rfl ?_
              exact t_X2_isLeast_131 h
  · rw [if_neg c12_1] at h
    refine q_blk2 (pc2 := 20) (ls2 := [(2, .long r1), (0, .ref 4), (1, .ref o1)]) (st2 := [.long 0, .long (z2.2 o1 1)]) (h2 := (q_K0, z2.1, z2.2, q_R0)) [(.aload_n 1, 0, 0, 0, 0, 0), (.getfield 53, 0, 1, 1, 0, 0), (.lconst 0, 0, 0, 0, 0, 0)] (by decide +kernel) rfl rfl ⟨trivial, ho1, trivial, trivial⟩ ?_
    refine q_lc_le (off := 58) (tgt := 79) (by decide +kernel) (by decide +kernel) (by decide) (fun c20_7 => ?_) (fun c20_7 => ?_)
    · rw [if_pos c20_7] at h
      refine q_pick [] rfl ?_
      exact t_X2_isLeast_79 h
    · rw [if_neg c20_7] at h
      refine q_blk2 (pc2 := 33) (ls2 := [(2, .long r1), (0, .ref 4), (1, .ref o1)]) (st2 := [.long (Int32.toInt64 (z2.1 4 1)), .long (z2.2 o1 1)]) (h2 := (q_K0, z2.1, z2.2, q_R0)) [(.aload_n 1, 0, 0, 0, 0, 0), (.getfield 53, 0, 1, 1, 0, 0), (.aload_n 0, 0, 0, 0, 0, 0), (.getfield 31, 0, 2, 1, 0, 0), (.i2l, 0, 0, 0, 0, 0)] (by decide +kernel) rfl rfl ⟨trivial, ho1, trivial, rfl, trivial, trivial⟩ ?_
      refine q_lc_gt (off := 45) (tgt := 79) (by decide +kernel) (by decide +kernel) (by decide) (fun c33_8 => ?_) (fun c33_8 => ?_)
      · rw [if_pos c33_8] at h
        refine q_pick [] rfl ?_
        exact t_X2_isLeast_79 h
      · rw [if_neg c33_8] at h
        refine q_blk2 (pc2 := 52) (ls2 := [(2, .long r1), (0, .ref 4), (1, .ref o1)]) (st2 := [.long (2 * r1), .long ((Int32.toInt64 (z2.1 4 1)) - (z2.2 o1 1))]) (h2 := (q_K0, z2.1, z2.2, q_R0)) [(.aload_n 0, 0, 0, 0, 0, 0), (.getfield 31, 0, 2, 1, 0, 0), (.i2l, 0, 0, 0, 0, 0), (.aload_n 1, 0, 0, 0, 0, 0), (.getfield 53, 0, 1, 1, 0, 0), (.lsub, 0, 0, 0, 0, 0), (.ldc2_w 56, 0, 0, 0, 0, 2), (.lload_n 2, 0, 0, 0, 0, 0), (.lmul, 0, 0, 0, 0, 0)] (by decide +kernel) rfl rfl ⟨trivial, rfl, trivial, trivial, ho1, trivial, trivial, trivial, trivial, trivial⟩ ?_
        refine q_lc_ge (off := 26) (tgt := 79) (by decide +kernel) (by decide +kernel) (by decide) (fun c52_9 => ?_) (fun c52_9 => ?_)
        · rw [if_pos c52_9] at h
          refine q_pick [] rfl ?_
          exact t_X2_isLeast_79 h
        · rw [if_neg c52_9] at h
          refine q_blk2 (pc2 := 71) (ls2 := [(2, .long r1), (0, .ref 4), (1, .ref o1)]) (st2 := [.long ((Int32.toInt64 (z2.1 4 1)) + (z2.2 o1 1)), .long (2 * r1)]) (h2 := (q_K0, z2.1, z2.2, q_R0)) [(.ldc2_w 56, 0, 0, 0, 0, 2), (.lload_n 2, 0, 0, 0, 0, 0), (.lmul, 0, 0, 0, 0, 0), (.aload_n 0, 0, 0, 0, 0, 0), (.getfield 31, 0, 2, 1, 0, 0), (.i2l, 0, 0, 0, 0, 0), (.aload_n 1, 0, 0, 0, 0, 0), (.getfield 53, 0, 1, 1, 0, 0), (.ladd, 0, 0, 0, 0, 0)] (by decide +kernel) rfl rfl ⟨trivial, trivial, trivial, trivial, rfl, trivial, trivial, ho1, trivial, trivial⟩ ?_
          refine q_lc_gt (off := 7) (tgt := 79) (by decide +kernel) (by decide +kernel) (by decide) (fun c71_10 => ?_) (fun c71_10 => ?_)
          · rw [if_pos c71_10] at h
            refine q_pick [] rfl ?_
            exact t_X2_isLeast_79 h
          · rw [if_neg c71_10] at h
            refine q_blk2 (pc2 := 76) (ls2 := [(2, .long r1), (0, .ref 4), (1, .ref o1)]) (st2 := [.int 1]) (h2 := (q_K0, z2.1, z2.2, q_R0)) [(.iconst 1, 0, 0, 0, 1, 0)] (by decide +kernel) rfl rfl ⟨trivial, trivial⟩ ?_
            refine q_goto (off := 4) (tgt := 80) (by decide +kernel) (by decide) ?_
            cases h
            exact q_iret .boolean rfl rfl (by decide +kernel)
/-- RootForms$Form.part(I)I -/
def F_X1_part (o0 : Nat) (z : q_Z) (l1 : Int32) : Option (Int32 × q_Z) :=
  if l1 = (0 : Int32) then
    some (Int64.toInt32 (z.2 o0 0), z)
  else
    if l1 = (1 : Int32) then
      some (Int64.toInt32 (z.2 o0 1), z)
    else
      if l1 = (2 : Int32) then
        some (Int64.toInt32 (z.2 o0 2), z)
      else
        some (0, z)
set_option maxRecDepth 100000 in
set_option maxHeartbeats 4000000 in
theorem s_X1_part {o0 : Nat} (ho0 : q_kk o0 = some (.inl 1)) {z zR : q_Z} {l1 : Int32} {rv : Int32} (h : F_X1_part o0 z l1 = some (rv, zR)) : q_Ca 14 [.ref o0, .int l1] (q_K0, z.1, z.2, q_R0) (some (.int rv)) (q_K0, zR.1, zR.2, q_R0) := by
  refine q_Ca_of (by decide) (Nat.le_of_ble_eq_true rfl) ?_
  show q_Ex none 14 0 [(0, .ref o0), (1, .int l1)] [] (q_K0, z.1, z.2, q_R0) _ _
  unfold F_X1_part at h
  refine q_blk2 (pc2 := 1) (ls2 := [(0, .ref o0), (1, .int l1)]) (st2 := [.int l1]) (h2 := (q_K0, z.1, z.2, q_R0)) [(.iload_n 1, 0, 0, 0, 0, 0)] (by decide +kernel) rfl rfl ⟨trivial, trivial⟩ ?_
  by_cases cw1 : l1 = (0 : Int32)
  · rw [if_pos cw1] at h
    refine q_tabI (dflt := 45) (lo := 0) (hi := 2) (offs := #[27, 33, 39]) (len := 27) (off := 27) (tgt := 28) (by decide +kernel) (by rw [cw1]; decide) (by rw [cw1]; decide) (by rw [cw1]; rfl) (by decide) ?_
    refine q_blk2 (pc2 := 33) (ls2 := [(0, .ref o0), (1, .int l1)]) (st2 := [.int (Int64.toInt32 (z.2 o0 0))]) (h2 := (q_K0, z.1, z.2, q_R0)) [(.aload_n 0, 0, 0, 0, 0, 0), (.getfield 7, 0, 1, 0, 0, 0), (.l2i, 0, 0, 0, 0, 0)] (by decide +kernel) rfl rfl ⟨trivial, ho0, trivial, trivial⟩ ?_
    cases h
    exact q_iret .int rfl rfl (by decide +kernel)
  rw [if_neg cw1] at h
  by_cases cw2 : l1 = (1 : Int32)
  · rw [if_pos cw2] at h
    refine q_tabI (dflt := 45) (lo := 0) (hi := 2) (offs := #[27, 33, 39]) (len := 27) (off := 33) (tgt := 34) (by decide +kernel) (by rw [cw2]; decide) (by rw [cw2]; decide) (by rw [cw2]; rfl) (by decide) ?_
    refine q_blk2 (pc2 := 39) (ls2 := [(0, .ref o0), (1, .int l1)]) (st2 := [.int (Int64.toInt32 (z.2 o0 1))]) (h2 := (q_K0, z.1, z.2, q_R0)) [(.aload_n 0, 0, 0, 0, 0, 0), (.getfield 13, 0, 1, 1, 0, 0), (.l2i, 0, 0, 0, 0, 0)] (by decide +kernel) rfl rfl ⟨trivial, ho0, trivial, trivial⟩ ?_
    cases h
    exact q_iret .int rfl rfl (by decide +kernel)
  rw [if_neg cw2] at h
  by_cases cw3 : l1 = (2 : Int32)
  · rw [if_pos cw3] at h
    refine q_tabI (dflt := 45) (lo := 0) (hi := 2) (offs := #[27, 33, 39]) (len := 27) (off := 39) (tgt := 40) (by decide +kernel) (by rw [cw3]; decide) (by rw [cw3]; decide) (by rw [cw3]; rfl) (by decide) ?_
    refine q_blk2 (pc2 := 45) (ls2 := [(0, .ref o0), (1, .int l1)]) (st2 := [.int (Int64.toInt32 (z.2 o0 2))]) (h2 := (q_K0, z.1, z.2, q_R0)) [(.aload_n 0, 0, 0, 0, 0, 0), (.getfield 16, 0, 1, 2, 0, 0), (.l2i, 0, 0, 0, 0, 0)] (by decide +kernel) rfl rfl ⟨trivial, ho0, trivial, trivial⟩ ?_
    cases h
    exact q_iret .int rfl rfl (by decide +kernel)
  rw [if_neg cw3] at h
  have e_cw1 : Int32.toInt l1 ≠ 0 := q_neI cw1
  have e_cw2 : Int32.toInt l1 ≠ 1 := q_neI cw2
  have e_cw3 : Int32.toInt l1 ≠ 2 := q_neI cw3
  refine q_tabO (dflt := 45) (lo := 0) (hi := 2) (offs := #[27, 33, 39]) (len := 27) (tgt := 46) (by decide +kernel) (by omega) (by decide) ?_
  refine q_blk2 (pc2 := 47) (ls2 := [(0, .ref o0), (1, .int l1)]) (st2 := [.int 0]) (h2 := (q_K0, z.1, z.2, q_R0)) [(.iconst 0, 0, 0, 0, 0, 0)] (by decide +kernel) rfl rfl ⟨trivial, trivial⟩ ?_
  cases h
  exact q_iret .int rfl rfl (by decide +kernel)
def T_X2_advance_55 (o1 : Nat) (z : q_Z) (l2 : Int64) (l4 : Int64) (t0 : Int64) : Option (Int64 × q_Z) :=
  (F_J9_floorMod_f86c9 z (((-(z.2 o1 1)) - t0) - 1) (2 * l4)).bind fun (r3, z4) =>
    if ¬ (2 * l2) = (0 : Int64) then
      if ¬ (4 * l2) = (0 : Int64) then
        (F_X1_put o1 z4 l2 ((t0 + 1) + r3) (((((t0 + 1) + r3) * ((t0 + 1) + r3)) - (Int32.toInt64 (z4.1 4 0))) / (4 * l2))).bind fun (_, z8) =>
          some (((z4.2 o1 1) + ((t0 + 1) + r3)) / (2 * l2), z8)
      else none
    else none
set_option maxRecDepth 100000 in
set_option maxHeartbeats 4000000 in
theorem t_X2_advance_55 {o1 : Nat} (ho1 : q_kk o1 = some (.inl 1)) {z zR : q_Z} {l2 : Int64} {l4 : Int64} {t0 : Int64} {rv : Int64} (h : T_X2_advance_55 o1 z l2 l4 t0 = some (rv, zR)) : q_Ex none 21 55 [(0, .ref 4), (1, .ref o1), (2, .long l2), (4, .long l4)] [.long t0] (q_K0, z.1, z.2, q_R0) (some (.long rv)) (q_K0, zR.1, zR.2, q_R0) := by
  unfold T_X2_advance_55 at h
  refine q_blk2 (pc2 := 77) (ls2 := [(6, .long t0), (0, .ref 4), (1, .ref o1), (2, .long l2), (4, .long l4)]) (st2 := [.long (2 * l4), .long (((-(z.2 o1 1)) - t0) - 1), .long (t0 + 1)]) (h2 := (q_K0, z.1, z.2, q_R0)) [(.lstore 6, 0, 0, 0, 0, 0), (.lload 6, 0, 0, 0, 0, 0), (.lconst 1, 0, 0, 0, 0, 1), (.ladd, 0, 0, 0, 0, 0), (.aload_n 1, 0, 0, 0, 0, 0), (.getfield 53, 0, 1, 1, 0, 0), (.lneg, 0, 0, 0, 0, 0), (.lload 6, 0, 0, 0, 0, 0), (.lsub, 0, 0, 0, 0, 0), (.lconst 1, 0, 0, 0, 0, 1), (.lsub, 0, 0, 0, 0, 0), (.ldc2_w 56, 0, 0, 0, 0, 2), (.lload 4, 0, 0, 0, 0, 0), (.lmul, 0, 0, 0, 0, 0)] (by decide +kernel) rfl rfl ⟨trivial, trivial, trivial, trivial, trivial, ho1, trivial, trivial, trivial, trivial, trivial, trivial, trivial, trivial, trivial⟩ ?_
  obtain ⟨⟨r3, z4⟩, hc9, h⟩ := Option.bind_eq_some_iff.mp h
  dsimp only at h
  refine q_cS1 (idx := 61) (v := .long r3) (h1 := (q_K0, z4.1, z4.2, q_R0)) [.long (2 * l4), .long (((-(z.2 o1 1)) - t0) - 1), .long (t0 + 1)] 158 [.long (((-(z.2 o1 1)) - t0) - 1), .long (2 * l4)] [.long (t0 + 1)] rfl (by decide +kernel) (by decide +kernel) rfl (Nat.le_of_ble_eq_true rfl) (by decide +kernel) (s_J9_floorMod_f86c9 hc9) ?_
  have b5 : ¬ (2 * l2) = (0 : Int64) := by
    by_cases q : ¬ (2 * l2) = (0 : Int64)
    · exact q
    · rw [if_neg q] at h; cases h
  rw [if_pos b5] at h
  have b6 : ¬ (4 * l2) = (0 : Int64) := by
    by_cases q : ¬ (4 * l2) = (0 : Int64)
    · exact q
    · rw [if_neg q] at h; cases h
  rw [if_pos b6] at h
  refine q_blk2 (pc2 := 119) (ls2 := [(10, .long (((z4.2 o1 1) + ((t0 + 1) + r3)) / (2 * l2))), (8, .long ((t0 + 1) + r3)), (6, .long t0), (0, .ref 4), (1, .ref o1), (2, .long l2), (4, .long l4)]) (st2 := [.long (((((t0 + 1) + r3) * ((t0 + 1) + r3)) - (Int32.toInt64 (z4.1 4 0))) / (4 * l2)), .long ((t0 + 1) + r3), .long l2, .ref o1]) (h2 := (q_K0, z4.1, z4.2, q_R0)) [(.ladd, 0, 0, 0, 0, 0), (.lstore 8, 0, 0, 0, 0, 0), (.aload_n 1, 0, 0, 0, 0, 0), (.getfield 53, 0, 1, 1, 0, 0), (.lload 8, 0, 0, 0, 0, 0), (.ladd, 0, 0, 0, 0, 0), (.ldc2_w 56, 0, 0, 0, 0, 2), (.lload_n 2, 0, 0, 0, 0, 0), (.lmul, 0, 0, 0, 0, 0), (.ldiv, 0, 0, 0, 0, 0), (.lstore 10, 0, 0, 0, 0, 0), (.aload_n 1, 0, 0, 0, 0, 0), (.lload_n 2, 0, 0, 0, 0, 0), (.lload 8, 0, 0, 0, 0, 0), (.lload 8, 0, 0, 0, 0, 0), (.lload 8, 0, 0, 0, 0, 0), (.lmul, 0, 0, 0, 0, 0), (.aload_n 0, 0, 0, 0, 0, 0), (.getfield 9, 0, 2, 0, 0, 0), (.i2l, 0, 0, 0, 0, 0), (.lsub, 0, 0, 0, 0, 0), (.ldc2_w 34, 0, 0, 0, 0, 4), (.lload_n 2, 0, 0, 0, 0, 0), (.lmul, 0, 0, 0, 0, 0), (.ldiv, 0, 0, 0, 0, 0)] (by decide +kernel) rfl rfl ⟨trivial, trivial, trivial, ho1, trivial, trivial, trivial, trivial, trivial, b5, trivial, trivial, trivial, trivial, trivial, trivial, trivial, trivial, rfl, trivial, trivial, trivial, trivial, trivial, b6, trivial⟩ ?_
  obtain ⟨⟨_, z8⟩, hc10, h⟩ := Option.bind_eq_some_iff.mp h
  dsimp only at h
  refine q_cV0 (idx := 36) (h1 := (q_K0, z8.1, z8.2, q_R0)) [.long (((((t0 + 1) + r3) * ((t0 + 1) + r3)) - (Int32.toInt64 (z4.1 4 0))) / (4 * l2)), .long ((t0 + 1) + r3), .long l2, .ref o1] 12 o1 1 [.long l2, .long ((t0 + 1) + r3), .long (((((t0 + 1) + r3) * ((t0 + 1) + r3)) - (Int32.toInt64 (z4.1 4 0))) / (4 * l2))] [] rfl (by decide +kernel) (by decide +kernel) rfl (Nat.le_of_ble_eq_true rfl) ho1 (by decide) (by decide +kernel) (by decide +kernel) (s_X1_put ho1 hc10) ?_
  refine q_blk2 (pc2 := 124) (ls2 := [(10, .long (((z4.2 o1 1) + ((t0 + 1) + r3)) / (2 * l2))), (8, .long ((t0 + 1) + r3)), (6, .long t0), (0, .ref 4), (1, .ref o1), (2, .long l2), (4, .long l4)]) (st2 := [.long (((z4.2 o1 1) + ((t0 + 1) + r3)) / (2 * l2))]) (h2 := (q_K0, z8.1, z8.2, q_R0)) [(.lload 10, 0, 0, 0, 0, 0)] (by decide +kernel) rfl rfl ⟨trivial, trivial⟩ ?_
  cases h
  exact q_lret rfl (by decide +kernel)
def T_X2_advance_37 (o1 : Nat) (z : q_Z) (l2 : Int64) (l4 : Int64) : Option (Int64 × q_Z) :=
  T_X2_advance_55 o1 z l2 l4 (-l4)
set_option maxRecDepth 100000 in
set_option maxHeartbeats 4000000 in
theorem t_X2_advance_37 {o1 : Nat} (ho1 : q_kk o1 = some (.inl 1)) {z zR : q_Z} {l2 : Int64} {l4 : Int64} {rv : Int64} (h : T_X2_advance_37 o1 z l2 l4 = some (rv, zR)) : q_Ex none 21 37 [(0, .ref 4), (1, .ref o1), (2, .long l2), (4, .long l4)] [] (q_K0, z.1, z.2, q_R0) (some (.long rv)) (q_K0, zR.1, zR.2, q_R0) := by
  unfold T_X2_advance_37 at h
  refine q_blk2 (pc2 := 40) (ls2 := [(0, .ref 4), (1, .ref o1), (2, .long l2), (4, .long l4)]) (st2 := [.long (-l4)]) (h2 := (q_K0, z.1, z.2, q_R0)) [(.lload 4, 0, 0, 0, 0, 0), (.lneg, 0, 0, 0, 0, 0)] (by decide +kernel) rfl rfl ⟨trivial, trivial, trivial⟩ ?_
  refine q_goto (off := 15) (tgt := 55) (by decide +kernel) (by decide) ?_
  refine q_pick [0, 1, 2, 3] rfl ?_
  exact t_X2_advance_55 ho1 h
/-- RootForms$Ground.advance(LRootForms$Form;)J -/
def F_X2_advance (o1 : Nat) (z : q_Z) : Option (Int64 × q_Z) :=
  if (z.2 o1 2) = (0 : Int64) then
    some (0, z)
  else
    (F_J9_abs_067f4 z (z.2 o1 2)).bind fun (r1, z2) =>
      if (z2.1 4 0) < (0 : Int32) then
        T_X2_advance_37 o1 z2 (z.2 o1 2) r1
      else
        if r1 ≤ (Int32.toInt64 (z2.1 4 1)) then
          T_X2_advance_55 o1 z2 (z.2 o1 2) r1 ((Int32.toInt64 (z2.1 4 1)) - (2 * r1))
        else
          T_X2_advance_37 o1 z2 (z.2 o1 2) r1
set_option maxRecDepth 100000 in
set_option maxHeartbeats 4000000 in
theorem s_X2_advance {o1 : Nat} (ho1 : q_kk o1 = some (.inl 1)) {z zR : q_Z} {rv : Int64} (h : F_X2_advance o1 z = some (rv, zR)) : q_Ca 21 [.ref 4, .ref o1] (q_K0, z.1, z.2, q_R0) (some (.long rv)) (q_K0, zR.1, zR.2, q_R0) := by
  refine q_Ca_of (by decide) (Nat.le_of_ble_eq_true rfl) ?_
  show q_Ex none 21 0 [(0, .ref 4), (1, .ref o1)] [] (q_K0, z.1, z.2, q_R0) _ _
  unfold F_X2_advance at h
  refine q_blk2 (pc2 := 7) (ls2 := [(2, .long (z.2 o1 2)), (0, .ref 4), (1, .ref o1)]) (st2 := [.long 0, .long (z.2 o1 2)]) (h2 := (q_K0, z.1, z.2, q_R0)) [(.aload_n 1, 0, 0, 0, 0, 0), (.getfield 58, 0, 1, 2, 0, 0), (.lstore_n 2, 0, 0, 0, 0, 0), (.lload_n 2, 0, 0, 0, 0, 0), (.lconst 0, 0, 0, 0, 0, 0)] (by decide +kernel) rfl rfl ⟨trivial, ho1, trivial, trivial, trivial, trivial⟩ ?_
  refine q_lc_ne (off := 5) (tgt := 13) (by decide +kernel) (by decide +kernel) (by decide) (fun c7_1 => ?_) (fun c7_1 => ?_)
  · rw [if_neg c7_1] at h
    refine q_blk2 (pc2 := 14) (ls2 := [(2, .long (z.2 o1 2)), (0, .ref 4), (1, .ref o1)]) (st2 := [.long (z.2 o1 2)]) (h2 := (q_K0, z.1, z.2, q_R0)) [(.lload_n 2, 0, 0, 0, 0, 0)] (by decide +kernel) rfl rfl ⟨trivial, trivial⟩ ?_
    obtain ⟨⟨r1, z2⟩, hc11, h⟩ := Option.bind_eq_some_iff.mp h
    dsimp only at h
    refine q_cS1 (idx := 50) (v := .long r1) (h1 := (q_K0, z2.1, z2.2, q_R0)) [.long (z.2 o1 2)] 160 [.long (z.2 o1 2)] [] rfl (by decide +kernel) (by decide +kernel) rfl (Nat.le_of_ble_eq_true rfl) (by decide +kernel) (s_J9_abs_067f4 hc11) ?_
    refine q_blk2 (pc2 := 23) (ls2 := [(4, .long r1), (2, .long (z.2 o1 2)), (0, .ref 4), (1, .ref o1)]) (st2 := [.int (z2.1 4 0)]) (h2 := (q_K0, z2.1, z2.2, q_R0)) [(.lstore 4, 0, 0, 0, 0, 0), (.aload_n 0, 0, 0, 0, 0, 0), (.getfield 9, 0, 2, 0, 0, 0)] (by decide +kernel) rfl rfl ⟨trivial, trivial, rfl, trivial⟩ ?_
    refine q_if_lt (off := 14) (tgt := 37) (by decide +kernel) (by decide) (fun c23_2 => ?_) (fun c23_2 => ?_)
    · rw [if_pos c23_2] at h
      refine q_pick [2, 3, 1, 0] rfl ?_
      exact t_X2_advance_37 ho1 h
    · rw [if_neg c23_2] at h
      refine q_blk2 (pc2 := 33) (ls2 := [(4, .long r1), (2, .long (z.2 o1 2)), (0, .ref 4), (1, .ref o1)]) (st2 := [.long (Int32.toInt64 (z2.1 4 1)), .long r1]) (h2 := (q_K0, z2.1, z2.2, q_R0)) [(.lload 4, 0, 0, 0, 0, 0), (.aload_n 0, 0, 0, 0, 0, 0), (.getfield 31, 0, 2, 1, 0, 0), (.i2l, 0, 0, 0, 0, 0)] (by decide +kernel) rfl rfl ⟨trivial, trivial, rfl, trivial, trivial⟩ ?_
      refine q_lc_le (off := 9) (tgt := 43) (by decide +kernel) (by decide +kernel) (by decide) (fun c33_3 => ?_) (fun c33_3 => ?_)
      · rw [if_pos c33_3] at h
        refine q_blk2 (pc2 := 55) (ls2 := [(4, .long r1), (2, .long (z.2 o1 2)), (0, .ref 4), (1, .ref o1)]) (st2 := [.long ((Int32.toInt64 (z2.1 4 1)) - (2 * r1))]) (h2 := (q_K0, z2.1, z2.2, q_R0)) [(.aload_n 0, 0, 0, 0, 0, 0), (.getfield 31, 0, 2, 1, 0, 0), (.i2l, 0, 0, 0, 0, 0), (.ldc2_w 56, 0, 0, 0, 0, 2), (.lload 4, 0, 0, 0, 0, 0), (.lmul, 0, 0, 0, 0, 0), (.lsub, 0, 0, 0, 0, 0)] (by decide +kernel) rfl rfl ⟨trivial, rfl, trivial, trivial, trivial, trivial, trivial, trivial⟩ ?_
        refine q_pick [2, 3, 1, 0] rfl ?_
        exact t_X2_advance_55 ho1 h
      · rw [if_neg c33_3] at h
        refine q_pick [2, 3, 1, 0] rfl ?_
        exact t_X2_advance_37 ho1 h
  · rw [if_pos c7_1] at h
    refine q_blk2 (pc2 := 12) (ls2 := [(2, .long (z.2 o1 2)), (0, .ref 4), (1, .ref o1)]) (st2 := [.long 0]) (h2 := (q_K0, z.1, z.2, q_R0)) [(.lconst 0, 0, 0, 0, 0, 0)] (by decide +kernel) rfl rfl ⟨trivial, trivial⟩ ?_
    cases h
    exact q_lret rfl (by decide +kernel)
/-- RootForms$Form.copy(LRootForms$Form;)V -/
def F_X1_copy (o0 : Nat) (o1 : Nat) (z : q_Z) : Option (Unit × q_Z) :=
  (F_X1_put o0 z (z.2 o1 0) (z.2 o1 1) (z.2 o1 2)).bind fun (_, z2) =>
    some ((), z2)
set_option maxRecDepth 100000 in
set_option maxHeartbeats 4000000 in
theorem s_X1_copy {o0 : Nat} {o1 : Nat} (ho0 : q_kk o0 = some (.inl 1)) (ho1 : q_kk o1 = some (.inl 1)) {z zR : q_Z} {rv : Unit} (h : F_X1_copy o0 o1 z = some (rv, zR)) : q_Ca 13 [.ref o0, .ref o1] (q_K0, z.1, z.2, q_R0) none (q_K0, zR.1, zR.2, q_R0) := by
  refine q_Ca_of (by decide) (Nat.le_of_ble_eq_true rfl) ?_
  show q_Ex none 13 0 [(0, .ref o0), (1, .ref o1)] [] (q_K0, z.1, z.2, q_R0) _ _
  unfold F_X1_copy at h
  refine q_blk2 (pc2 := 13) (ls2 := [(0, .ref o0), (1, .ref o1)]) (st2 := [.long (z.2 o1 2), .long (z.2 o1 1), .long (z.2 o1 0), .ref o0]) (h2 := (q_K0, z.1, z.2, q_R0)) [(.aload_n 0, 0, 0, 0, 0, 0), (.aload_n 1, 0, 0, 0, 0, 0), (.getfield 7, 0, 1, 0, 0, 0), (.aload_n 1, 0, 0, 0, 0, 0), (.getfield 13, 0, 1, 1, 0, 0), (.aload_n 1, 0, 0, 0, 0, 0), (.getfield 16, 0, 1, 2, 0, 0)] (by decide +kernel) rfl rfl ⟨trivial, trivial, ho1, trivial, ho1, trivial, ho1, trivial⟩ ?_
  obtain ⟨⟨_, z2⟩, hc3, h⟩ := Option.bind_eq_some_iff.mp h
  dsimp only at h
  refine q_cV0 (idx := 19) (h1 := (q_K0, z2.1, z2.2, q_R0)) [.long (z.2 o1 2), .long (z.2 o1 1), .long (z.2 o1 0), .ref o0] 12 o0 1 [.long (z.2 o1 0), .long (z.2 o1 1), .long (z.2 o1 2)] [] rfl (by decide +kernel) (by decide +kernel) rfl (Nat.le_of_ble_eq_true rfl) ho0 (by decide) (by decide +kernel) (by decide +kernel) (s_X1_put ho0 hc3) ?_
  cases h
  exact q_vret rfl (by decide +kernel)
/-- RootForms$Form.worthAt(JJ)J -/
def F_X1_worthAt (o0 : Nat) (z : q_Z) (l1 : Int64) (l3 : Int64) : Option (Int64 × q_Z) :=
  some (((((z.2 o0 0) * l1) * l1) + (((z.2 o0 1) * l1) * l3)) + (((z.2 o0 2) * l3) * l3), z)
set_option maxRecDepth 100000 in
set_option maxHeartbeats 4000000 in
theorem s_X1_worthAt {o0 : Nat} (ho0 : q_kk o0 = some (.inl 1)) {z zR : q_Z} {l1 : Int64} {l3 : Int64} {rv : Int64} (h : F_X1_worthAt o0 z l1 l3 = some (rv, zR)) : q_Ca 15 [.ref o0, .long l1, .long l3] (q_K0, z.1, z.2, q_R0) (some (.long rv)) (q_K0, zR.1, zR.2, q_R0) := by
  refine q_Ca_of (by decide) (Nat.le_of_ble_eq_true rfl) ?_
  show q_Ex none 15 0 [(0, .ref o0), (1, .long l1), (3, .long l3)] [] (q_K0, z.1, z.2, q_R0) _ _
  unfold F_X1_worthAt at h
  refine q_blk2 (pc2 := 26) (ls2 := [(0, .ref o0), (1, .long l1), (3, .long l3)]) (st2 := [.long (((((z.2 o0 0) * l1) * l1) + (((z.2 o0 1) * l1) * l3)) + (((z.2 o0 2) * l3) * l3))]) (h2 := (q_K0, z.1, z.2, q_R0)) [(.aload_n 0, 0, 0, 0, 0, 0), (.getfield 7, 0, 1, 0, 0, 0), (.lload_n 1, 0, 0, 0, 0, 0), (.lmul, 0, 0, 0, 0, 0), (.lload_n 1, 0, 0, 0, 0, 0), (.lmul, 0, 0, 0, 0, 0), (.aload_n 0, 0, 0, 0, 0, 0), (.getfield 13, 0, 1, 1, 0, 0), (.lload_n 1, 0, 0, 0, 0, 0), (.lmul, 0, 0, 0, 0, 0), (.lload_n 3, 0, 0, 0, 0, 0), (.lmul, 0, 0, 0, 0, 0), (.ladd, 0, 0, 0, 0, 0), (.aload_n 0, 0, 0, 0, 0, 0), (.getfield 16, 0, 1, 2, 0, 0), (.lload_n 3, 0, 0, 0, 0, 0), (.lmul, 0, 0, 0, 0, 0), (.lload_n 3, 0, 0, 0, 0, 0), (.lmul, 0, 0, 0, 0, 0), (.ladd, 0, 0, 0, 0, 0)] (by decide +kernel) rfl rfl ⟨trivial, ho0, trivial, trivial, trivial, trivial, trivial, ho0, trivial, trivial, trivial, trivial, trivial, trivial, ho0, trivial, trivial, trivial, trivial, trivial, trivial⟩ ?_
  cases h
  exact q_lret rfl (by decide +kernel)
def T_X2_isDiscriminant_27 (z : q_Z) : Option (Int32 × q_Z) :=
  some (0, z)
set_option maxRecDepth 100000 in
set_option maxHeartbeats 4000000 in
theorem t_X2_isDiscriminant_27 {z zR : q_Z} {rv : Int32} (h : T_X2_isDiscriminant_27 z = some (rv, zR)) : q_Ex none 17 27 [] [] (q_K0, z.1, z.2, q_R0) (some (.int rv)) (q_K0, zR.1, zR.2, q_R0) := by
  unfold T_X2_isDiscriminant_27 at h
  refine q_blk2 (pc2 := 28) (ls2 := []) (st2 := [.int 0]) (h2 := (q_K0, z.1, z.2, q_R0)) [(.iconst 0, 0, 0, 0, 0, 0)] (by decide +kernel) rfl rfl ⟨trivial, trivial⟩ ?_
  cases h
  exact q_iret .boolean rfl rfl (by decide +kernel)
def T_X2_isDiscriminant_41 (z : q_Z) : Option (Int32 × q_Z) :=
  some (1, z)
set_option maxRecDepth 100000 in
set_option maxHeartbeats 4000000 in
theorem t_X2_isDiscriminant_41 {z zR : q_Z} {rv : Int32} (h : T_X2_isDiscriminant_41 z = some (rv, zR)) : q_Ex none 17 41 [] [] (q_K0, z.1, z.2, q_R0) (some (.int rv)) (q_K0, zR.1, zR.2, q_R0) := by
  unfold T_X2_isDiscriminant_41 at h
  refine q_blk2 (pc2 := 42) (ls2 := []) (st2 := [.int 1]) (h2 := (q_K0, z.1, z.2, q_R0)) [(.iconst 1, 0, 0, 0, 1, 0)] (by decide +kernel) rfl rfl ⟨trivial, trivial⟩ ?_
  refine q_goto (off := 4) (tgt := 46) (by decide +kernel) (by decide) ?_
  cases h
  exact q_iret .boolean rfl rfl (by decide +kernel)
/-- RootForms$Ground.isDiscriminant(I)Z -/
def F_X2_isDiscriminant (z : q_Z) (l0 : Int32) : Option (Int32 × q_Z) :=
  if l0 < (-4000 : Int32) then
    T_X2_isDiscriminant_27 z
  else
    if (4000 : Int32) < l0 then
      T_X2_isDiscriminant_27 z
    else
      if l0 = (0 : Int32) then
        T_X2_isDiscriminant_27 z
      else
        (F_J9_floorMod_7cf53 z l0 4).bind fun (r1, z2) =>
          if r1 ≤ (1 : Int32) then
            if l0 < (0 : Int32) then
              T_X2_isDiscriminant_41 z2
            else
              (F_X7_isSquare z2 (Int32.toInt64 l0)).bind fun (r3, z4) =>
                if r3 = (0 : Int32) then
                  T_X2_isDiscriminant_41 z4
                else
                  some (0, z4)
          else
            T_X2_isDiscriminant_27 z2
set_option maxRecDepth 100000 in
set_option maxHeartbeats 4000000 in
theorem s_X2_isDiscriminant {z zR : q_Z} {l0 : Int32} {rv : Int32} (h : F_X2_isDiscriminant z l0 = some (rv, zR)) : q_Ca 17 [.int l0] (q_K0, z.1, z.2, q_R0) (some (.int rv)) (q_K0, zR.1, zR.2, q_R0) := by
  refine q_Ca_of (by decide) (Nat.le_of_ble_eq_true rfl) ?_
  show q_Ex none 17 0 [(0, .int l0)] [] (q_K0, z.1, z.2, q_R0) _ _
  unfold F_X2_isDiscriminant at h
  refine q_blk2 (pc2 := 4) (ls2 := [(0, .int l0)]) (st2 := [.int (-4000), .int l0]) (h2 := (q_K0, z.1, z.2, q_R0)) [(.iload_n 0, 0, 0, 0, 0, 0), (.sipush (-4000), 0, 0, 0, (-4000), 0)] (by decide +kernel) rfl rfl ⟨trivial, trivial, trivial⟩ ?_
  refine q_ic_lt (off := 23) (tgt := 27) (by decide +kernel) (by decide) (fun c4_1 => ?_) (fun c4_1 => ?_)
  · rw [if_pos c4_1] at h
    refine q_pick [] rfl ?_
    exact t_X2_isDiscriminant_27 h
  · rw [if_neg c4_1] at h
    refine q_blk2 (pc2 := 11) (ls2 := [(0, .int l0)]) (st2 := [.int 4000, .int l0]) (h2 := (q_K0, z.1, z.2, q_R0)) [(.iload_n 0, 0, 0, 0, 0, 0), (.sipush 4000, 0, 0, 0, 4000, 0)] (by decide +kernel) rfl rfl ⟨trivial, trivial, trivial⟩ ?_
    refine q_ic_gt (off := 16) (tgt := 27) (by decide +kernel) (by decide) (fun c11_2 => ?_) (fun c11_2 => ?_)
    · rw [if_pos c11_2] at h
      refine q_pick [] rfl ?_
      exact t_X2_isDiscriminant_27 h
    · rw [if_neg c11_2] at h
      refine q_blk2 (pc2 := 15) (ls2 := [(0, .int l0)]) (st2 := [.int l0]) (h2 := (q_K0, z.1, z.2, q_R0)) [(.iload_n 0, 0, 0, 0, 0, 0)] (by decide +kernel) rfl rfl ⟨trivial, trivial⟩ ?_
      refine q_if_eq (off := 12) (tgt := 27) (by decide +kernel) (by decide) (fun c15_3 => ?_) (fun c15_3 => ?_)
      · rw [if_pos c15_3] at h
        refine q_pick [] rfl ?_
        exact t_X2_isDiscriminant_27 h
      · rw [if_neg c15_3] at h
        refine q_blk2 (pc2 := 20) (ls2 := [(0, .int l0)]) (st2 := [.int 4, .int l0]) (h2 := (q_K0, z.1, z.2, q_R0)) [(.iload_n 0, 0, 0, 0, 0, 0), (.iconst 4, 0, 0, 0, 4, 0)] (by decide +kernel) rfl rfl ⟨trivial, trivial, trivial⟩ ?_
        obtain ⟨⟨r1, z2⟩, hc5, h⟩ := Option.bind_eq_some_iff.mp h
        dsimp only at h
        refine q_cS1 (idx := 15) (v := .int r1) (h1 := (q_K0, z2.1, z2.2, q_R0)) [.int 4, .int l0] 157 [.int l0, .int 4] [] rfl (by decide +kernel) (by decide +kernel) rfl (Nat.le_of_ble_eq_true rfl) (by decide +kernel) (s_J9_floorMod_7cf53 hc5) ?_
        refine q_blk2 (pc2 := 24) (ls2 := [(0, .int l0)]) (st2 := [.int 1, .int r1]) (h2 := (q_K0, z2.1, z2.2, q_R0)) [(.iconst 1, 0, 0, 0, 1, 0)] (by decide +kernel) rfl rfl ⟨trivial, trivial⟩ ?_
        refine q_ic_le (off := 5) (tgt := 29) (by decide +kernel) (by decide) (fun c24_4 => ?_) (fun c24_4 => ?_)
        · rw [if_pos c24_4] at h
          refine q_blk2 (pc2 := 30) (ls2 := [(0, .int l0)]) (st2 := [.int l0]) (h2 := (q_K0, z2.1, z2.2, q_R0)) [(.iload_n 0, 0, 0, 0, 0, 0)] (by decide +kernel) rfl rfl ⟨trivial, trivial⟩ ?_
          refine q_if_lt (off := 11) (tgt := 41) (by decide +kernel) (by decide) (fun c30_5 => ?_) (fun c30_5 => ?_)
          · rw [if_pos c30_5] at h
            refine q_pick [] rfl ?_
            exact t_X2_isDiscriminant_41 h
          · rw [if_neg c30_5] at h
            refine q_blk2 (pc2 := 35) (ls2 := [(0, .int l0)]) (st2 := [.long (Int32.toInt64 l0)]) (h2 := (q_K0, z2.1, z2.2, q_R0)) [(.iload_n 0, 0, 0, 0, 0, 0), (.i2l, 0, 0, 0, 0, 0)] (by decide +kernel) rfl rfl ⟨trivial, trivial, trivial⟩ ?_
            obtain ⟨⟨r3, z4⟩, hc6, h⟩ := Option.bind_eq_some_iff.mp h
            dsimp only at h
            refine q_cS1 (idx := 21) (v := .int r3) (h1 := (q_K0, z4.1, z4.2, q_R0)) [.long (Int32.toInt64 l0)] 49 [.long (Int32.toInt64 l0)] [] rfl (by decide +kernel) (by decide +kernel) rfl (Nat.le_of_ble_eq_true rfl) (by decide +kernel) (s_X7_isSquare hc6) ?_
            refine q_if_ne (off := 7) (tgt := 45) (by decide +kernel) (by decide) (fun c38_6 => ?_) (fun c38_6 => ?_)
            · rw [if_neg c38_6] at h
              refine q_blk2 (pc2 := 46) (ls2 := [(0, .int l0)]) (st2 := [.int 0]) (h2 := (q_K0, z4.1, z4.2, q_R0)) [(.iconst 0, 0, 0, 0, 0, 0)] (by decide +kernel) rfl rfl ⟨trivial, trivial⟩ ?_
              cases h
              exact q_iret .boolean rfl rfl (by decide +kernel)
            · rw [if_pos c38_6] at h
              refine q_pick [] rfl ?_
              exact t_X2_isDiscriminant_41 h
        · rw [if_neg c24_4] at h
          refine q_pick [] rfl ?_
          exact t_X2_isDiscriminant_27 h
def T_X2_settle_20 (z : q_Z) (t0 : Int32) : Option (Unit × q_Z) :=
  some ((), (q_u2 z.1 4 1 t0, z.2))
set_option maxRecDepth 100000 in
set_option maxHeartbeats 4000000 in
theorem t_X2_settle_20 {z zR : q_Z} {t0 : Int32} {rv : Unit} (h : T_X2_settle_20 z t0 = some (rv, zR)) : q_Ex none 18 20 [] [.int t0, .ref 4] (q_K0, z.1, z.2, q_R0) none (q_K0, zR.1, zR.2, q_R0) := by
  unfold T_X2_settle_20 at h
  refine q_blk2 (pc2 := 23) (ls2 := []) (st2 := []) (h2 := (q_K0, q_u2 z.1 4 1 t0, z.2, q_R0)) [(.putfield 31, 0, 2, 1, 0, 0)] (by decide +kernel) rfl rfl ⟨⟨rfl, rfl, rfl⟩, trivial⟩ ?_
  cases h
  exact q_vret rfl (by decide +kernel)
/-- RootForms$Ground.settle(I)V -/
def F_X2_settle (z : q_Z) (l1 : Int32) : Option (Unit × q_Z) :=
  if l1 ≤ (0 : Int32) then
    T_X2_settle_20 (q_u2 z.1 4 0 l1, z.2) 0
  else
    (F_X7_rootOf (q_u2 z.1 4 0 l1, z.2) (Int32.toInt64 l1)).bind fun (r1, z2) =>
      T_X2_settle_20 z2 (Int64.toInt32 r1)
set_option maxRecDepth 100000 in
set_option maxHeartbeats 4000000 in
theorem s_X2_settle {z zR : q_Z} {l1 : Int32} {rv : Unit} (h : F_X2_settle z l1 = some (rv, zR)) : q_Ca 18 [.ref 4, .int l1] (q_K0, z.1, z.2, q_R0) none (q_K0, zR.1, zR.2, q_R0) := by
  refine q_Ca_of (by decide) (Nat.le_of_ble_eq_true rfl) ?_
  show q_Ex none 18 0 [(0, .ref 4), (1, .int l1)] [] (q_K0, z.1, z.2, q_R0) _ _
  unfold F_X2_settle at h
  refine q_blk2 (pc2 := 7) (ls2 := [(0, .ref 4), (1, .int l1)]) (st2 := [.int l1, .ref 4]) (h2 := (q_K0, q_u2 z.1 4 0 l1, z.2, q_R0)) [(.aload_n 0, 0, 0, 0, 0, 0), (.iload_n 1, 0, 0, 0, 0, 0), (.putfield 9, 0, 2, 0, 0, 0), (.aload_n 0, 0, 0, 0, 0, 0), (.iload_n 1, 0, 0, 0, 0, 0)] (by decide +kernel) rfl rfl ⟨trivial, trivial, ⟨rfl, rfl, rfl⟩, trivial, trivial, trivial⟩ ?_
  refine q_if_le (off := 12) (tgt := 19) (by decide +kernel) (by decide) (fun c7_1 => ?_) (fun c7_1 => ?_)
  · rw [if_pos c7_1] at h
    refine q_blk2 (pc2 := 20) (ls2 := [(0, .ref 4), (1, .int l1)]) (st2 := [.int 0, .ref 4]) (h2 := (q_K0, q_u2 z.1 4 0 l1, z.2, q_R0)) [(.iconst 0, 0, 0, 0, 0, 0)] (by decide +kernel) rfl rfl ⟨trivial, trivial⟩ ?_
    refine q_pick [] rfl ?_
    exact t_X2_settle_20 h
  · rw [if_neg c7_1] at h
    refine q_blk2 (pc2 := 12) (ls2 := [(0, .ref 4), (1, .int l1)]) (st2 := [.long (Int32.toInt64 l1), .ref 4]) (h2 := (q_K0, q_u2 z.1 4 0 l1, z.2, q_R0)) [(.iload_n 1, 0, 0, 0, 0, 0), (.i2l, 0, 0, 0, 0, 0)] (by decide +kernel) rfl rfl ⟨trivial, trivial, trivial⟩ ?_
    obtain ⟨⟨r1, z2⟩, hc3, h⟩ := Option.bind_eq_some_iff.mp h
    dsimp only at h
    refine q_cS1 (idx := 27) (v := .long r1) (h1 := (q_K0, z2.1, z2.2, q_R0)) [.long (Int32.toInt64 l1), .ref 4] 48 [.long (Int32.toInt64 l1)] [.ref 4] rfl (by decide +kernel) (by decide +kernel) rfl (Nat.le_of_ble_eq_true rfl) (by decide +kernel) (s_X7_rootOf hc3) ?_
    refine q_blk2 (pc2 := 16) (ls2 := [(0, .ref 4), (1, .int l1)]) (st2 := [.int (Int64.toInt32 r1), .ref 4]) (h2 := (q_K0, z2.1, z2.2, q_R0)) [(.l2i, 0, 0, 0, 0, 0)] (by decide +kernel) rfl rfl ⟨trivial, trivial⟩ ?_
    refine q_goto (off := 4) (tgt := 20) (by decide +kernel) (by decide) ?_
    refine q_pick [] rfl ?_
    exact t_X2_settle_20 h
/-- RootForms$Way.put(JJJJ)V -/
def F_X8_put (o0 : Nat) (z : q_Z) (l1 : Int64) (l3 : Int64) (l5 : Int64) (l7 : Int64) : Option (Unit × q_Z) :=
  some ((), (z.1, q_u2 (q_u2 (q_u2 (q_u2 z.2 o0 0 l1) o0 1 l3) o0 2 l5) o0 3 l7))
set_option maxRecDepth 100000 in
set_option maxHeartbeats 4000000 in
theorem s_X8_put {o0 : Nat} (ho0 : q_kk o0 = some (.inl 7)) {z zR : q_Z} {l1 : Int64} {l3 : Int64} {l5 : Int64} {l7 : Int64} {rv : Unit} (h : F_X8_put o0 z l1 l3 l5 l7 = some (rv, zR)) : q_Ca 53 [.ref o0, .long l1, .long l3, .long l5, .long l7] (q_K0, z.1, z.2, q_R0) none (q_K0, zR.1, zR.2, q_R0) := by
  refine q_Ca_of (by decide) (Nat.le_of_ble_eq_true rfl) ?_
  show q_Ex none 53 0 [(0, .ref o0), (1, .long l1), (3, .long l3), (5, .long l5), (7, .long l7)] [] (q_K0, z.1, z.2, q_R0) _ _
  unfold F_X8_put at h
  refine q_blk2 (pc2 := 22) (ls2 := [(0, .ref o0), (1, .long l1), (3, .long l3), (5, .long l5), (7, .long l7)]) (st2 := []) (h2 := (q_K0, z.1, q_u2 (q_u2 (q_u2 (q_u2 z.2 o0 0 l1) o0 1 l3) o0 2 l5) o0 3 l7, q_R0)) [(.aload_n 0, 0, 0, 0, 0, 0), (.lload_n 1, 0, 0, 0, 0, 0), (.putfield 7, 0, 7, 0, 0, 0), (.aload_n 0, 0, 0, 0, 0, 0), (.lload_n 3, 0, 0, 0, 0, 0), (.putfield 16, 0, 7, 1, 0, 0), (.aload_n 0, 0, 0, 0, 0, 0), (.lload 5, 0, 0, 0, 0, 0), (.putfield 19, 0, 7, 2, 0, 0), (.aload_n 0, 0, 0, 0, 0, 0), (.lload 7, 0, 0, 0, 0, 0), (.putfield 13, 0, 7, 3, 0, 0)] (by decide +kernel) rfl rfl ⟨trivial, trivial, ho0, trivial, trivial, ho0, trivial, trivial, ho0, trivial, trivial, ho0, trivial⟩ ?_
  cases h
  exact q_vret rfl (by decide +kernel)
/-- RootForms$Way.reset()V -/
def F_X8_reset (o0 : Nat) (z : q_Z) : Option (Unit × q_Z) :=
  (F_X8_put o0 z 1 0 0 1).bind fun (_, z2) =>
    some ((), z2)
set_option maxRecDepth 100000 in
set_option maxHeartbeats 4000000 in
theorem s_X8_reset {o0 : Nat} (ho0 : q_kk o0 = some (.inl 7)) {z zR : q_Z} {rv : Unit} (h : F_X8_reset o0 z = some (rv, zR)) : q_Ca 54 [.ref o0] (q_K0, z.1, z.2, q_R0) none (q_K0, zR.1, zR.2, q_R0) := by
  refine q_Ca_of (by decide) (Nat.le_of_ble_eq_true rfl) ?_
  show q_Ex none 54 0 [(0, .ref o0)] [] (q_K0, z.1, z.2, q_R0) _ _
  unfold F_X8_reset at h
  refine q_blk2 (pc2 := 5) (ls2 := [(0, .ref o0)]) (st2 := [.long 1, .long 0, .long 0, .long 1, .ref o0]) (h2 := (q_K0, z.1, z.2, q_R0)) [(.aload_n 0, 0, 0, 0, 0, 0), (.lconst 1, 0, 0, 0, 0, 1), (.lconst 0, 0, 0, 0, 0, 0), (.lconst 0, 0, 0, 0, 0, 0), (.lconst 1, 0, 0, 0, 0, 1)] (by decide +kernel) rfl rfl ⟨trivial, trivial, trivial, trivial, trivial, trivial⟩ ?_
  obtain ⟨⟨_, z2⟩, hc3, h⟩ := Option.bind_eq_some_iff.mp h
  dsimp only at h
  refine q_cV0 (idx := 22) (h1 := (q_K0, z2.1, z2.2, q_R0)) [.long 1, .long 0, .long 0, .long 1, .ref o0] 53 o0 7 [.long 1, .long 0, .long 0, .long 1] [] rfl (by decide +kernel) (by decide +kernel) rfl (Nat.le_of_ble_eq_true rfl) ho0 (by decide) (by decide +kernel) (by decide +kernel) (s_X8_put ho0 hc3) ?_
  cases h
  exact q_vret rfl (by decide +kernel)
/-- RootForms$Way.follow(J)V -/
def F_X8_follow (o0 : Nat) (z : q_Z) (l1 : Int64) : Option (Unit × q_Z) :=
  (F_X8_put o0 z (z.2 o0 1) (((z.2 o0 1) * l1) - (z.2 o0 0)) (z.2 o0 3) (((z.2 o0 3) * l1) - (z.2 o0 2))).bind fun (_, z2) =>
    some ((), z2)
set_option maxRecDepth 100000 in
set_option maxHeartbeats 4000000 in
theorem s_X8_follow {o0 : Nat} (ho0 : q_kk o0 = some (.inl 7)) {z zR : q_Z} {l1 : Int64} {rv : Unit} (h : F_X8_follow o0 z l1 = some (rv, zR)) : q_Ca 55 [.ref o0, .long l1] (q_K0, z.1, z.2, q_R0) none (q_K0, zR.1, zR.2, q_R0) := by
  refine q_Ca_of (by decide) (Nat.le_of_ble_eq_true rfl) ?_
  show q_Ex none 55 0 [(0, .ref o0), (1, .long l1)] [] (q_K0, z.1, z.2, q_R0) _ _
  unfold F_X8_follow at h
  refine q_blk2 (pc2 := 31) (ls2 := [(0, .ref o0), (1, .long l1)]) (st2 := [.long (((z.2 o0 3) * l1) - (z.2 o0 2)), .long (z.2 o0 3), .long (((z.2 o0 1) * l1) - (z.2 o0 0)), .long (z.2 o0 1), .ref o0]) (h2 := (q_K0, z.1, z.2, q_R0)) [(.aload_n 0, 0, 0, 0, 0, 0), (.aload_n 0, 0, 0, 0, 0, 0), (.getfield 16, 0, 7, 1, 0, 0), (.aload_n 0, 0, 0, 0, 0, 0), (.getfield 16, 0, 7, 1, 0, 0), (.lload_n 1, 0, 0, 0, 0, 0), (.lmul, 0, 0, 0, 0, 0), (.aload_n 0, 0, 0, 0, 0, 0), (.getfield 7, 0, 7, 0, 0, 0), (.lsub, 0, 0, 0, 0, 0), (.aload_n 0, 0, 0, 0, 0, 0), (.getfield 13, 0, 7, 3, 0, 0), (.aload_n 0, 0, 0, 0, 0, 0), (.getfield 13, 0, 7, 3, 0, 0), (.lload_n 1, 0, 0, 0, 0, 0), (.lmul, 0, 0, 0, 0, 0), (.aload_n 0, 0, 0, 0, 0, 0), (.getfield 19, 0, 7, 2, 0, 0), (.lsub, 0, 0, 0, 0, 0)] (by decide +kernel) rfl rfl ⟨trivial, trivial, ho0, trivial, ho0, trivial, trivial, trivial, ho0, trivial, trivial, ho0, trivial, ho0, trivial, trivial, trivial, ho0, trivial, trivial⟩ ?_
  obtain ⟨⟨_, z2⟩, hc3, h⟩ := Option.bind_eq_some_iff.mp h
  dsimp only at h
  refine q_cV0 (idx := 22) (h1 := (q_K0, z2.1, z2.2, q_R0)) [.long (((z.2 o0 3) * l1) - (z.2 o0 2)), .long (z.2 o0 3), .long (((z.2 o0 1) * l1) - (z.2 o0 0)), .long (z.2 o0 1), .ref o0] 53 o0 7 [.long (z.2 o0 1), .long (((z.2 o0 1) * l1) - (z.2 o0 0)), .long (z.2 o0 3), .long (((z.2 o0 3) * l1) - (z.2 o0 2))] [] rfl (by decide +kernel) (by decide +kernel) rfl (Nat.le_of_ble_eq_true rfl) ho0 (by decide) (by decide +kernel) (by decide +kernel) (s_X8_put ho0 hc3) ?_
  cases h
  exact q_vret rfl (by decide +kernel)
def B_X2_lead_6 (o1 : Nat) (o2 : Nat) : Int32 × q_Z → Option ((Int32 × q_Z) × Nat) := fun (l3, z) =>
  if (100000 : Int32) ≤ l3 then
    some ((l3, z), 1)
  else
    (F_X2_isLeast o1 z).bind fun (r3, z4) =>
      if r3 = (0 : Int32) then
        (F_X2_advance o1 z4).bind fun (r5, z6) =>
          (F_X8_follow o2 z6 r5).bind fun (_, z8) =>
            some ((l3 + 1, z8), 0)
      else
        some ((l3, z4), 1)
set_option maxRecDepth 100000 in
set_option maxHeartbeats 4000000 in
theorem b_X2_lead_6 {o1 : Nat} {o2 : Nat} (ho1 : q_kk o1 = some (.inl 1)) (ho2 : q_kk o2 = some (.inl 7)) {s s2 : Int32 × q_Z} {t : Nat} {r : Option Value} {h2 : q_H} (h : B_X2_lead_6 o1 o2 s = some (s2, t)) (k0 : t = 0 → q_Ex none 22 6 [(0, .ref 4), (1, .ref o1), (2, .ref o2), (3, .int s2.1)] [] (q_K0, s2.2.1, s2.2.2, q_R0) r h2) (k1 : t = 1 → q_Ex none 22 35 [(0, .ref 4), (1, .ref o1), (2, .ref o2), (3, .int s2.1)] [] (q_K0, s2.2.1, s2.2.2, q_R0) r h2) : q_Ex none 22 6 [(0, .ref 4), (1, .ref o1), (2, .ref o2), (3, .int s.1)] [] (q_K0, s.2.1, s.2.2, q_R0) r h2 := by
  unfold B_X2_lead_6 at h
  obtain ⟨l3, z⟩ := s
  dsimp only at h
  show q_Ex none 22 6 [(0, .ref 4), (1, .ref o1), (2, .ref o2), (3, .int l3)] [] (q_K0, z.1, z.2, q_R0) r h2
  refine q_blk2 (pc2 := 9) (ls2 := [(0, .ref 4), (1, .ref o1), (2, .ref o2), (3, .int l3)]) (st2 := [.int 100000, .int l3]) (h2 := (q_K0, z.1, z.2, q_R0)) [(.iload_n 3, 0, 0, 0, 0, 0), (.ldc 68, 0, 0, 0, 100000, 0)] (by decide +kernel) rfl rfl ⟨trivial, trivial, trivial⟩ ?_
  refine q_ic_ge (off := 26) (tgt := 35) (by decide +kernel) (by decide) (fun c9_1 => ?_) (fun c9_1 => ?_)
  · rw [if_pos c9_1] at h
    cases h
    refine q_pick [0, 1, 2, 3] rfl ?_
    exact k1 rfl
  · rw [if_neg c9_1] at h
    refine q_blk2 (pc2 := 14) (ls2 := [(0, .ref 4), (1, .ref o1), (2, .ref o2), (3, .int l3)]) (st2 := [.ref o1, .ref 4]) (h2 := (q_K0, z.1, z.2, q_R0)) [(.aload_n 0, 0, 0, 0, 0, 0), (.aload_n 1, 0, 0, 0, 0, 0)] (by decide +kernel) rfl rfl ⟨trivial, trivial, trivial⟩ ?_
    obtain ⟨⟨r3, z4⟩, hc9, h⟩ := Option.bind_eq_some_iff.mp h
    dsimp only at h
    refine q_cV1 (idx := 69) (v := .int r3) (h1 := (q_K0, z4.1, z4.2, q_R0)) [.ref o1, .ref 4] 20 4 2 [.ref o1] [] rfl (by decide +kernel) (by decide +kernel) rfl (Nat.le_of_ble_eq_true rfl) rfl (by decide) (by decide +kernel) (by decide +kernel) (s_X2_isLeast ho1 hc9) ?_
    refine q_if_ne (off := 18) (tgt := 35) (by decide +kernel) (by decide) (fun c17_2 => ?_) (fun c17_2 => ?_)
    · rw [if_neg c17_2] at h
      cases h
      refine q_pick [0, 1, 2, 3] rfl ?_
      exact k1 rfl
    · rw [if_pos c17_2] at h
      refine q_blk2 (pc2 := 23) (ls2 := [(0, .ref 4), (1, .ref o1), (2, .ref o2), (3, .int l3)]) (st2 := [.ref o1, .ref 4, .ref o2]) (h2 := (q_K0, z4.1, z4.2, q_R0)) [(.aload_n 2, 0, 0, 0, 0, 0), (.aload_n 0, 0, 0, 0, 0, 0), (.aload_n 1, 0, 0, 0, 0, 0)] (by decide +kernel) rfl rfl ⟨trivial, trivial, trivial, trivial⟩ ?_
      obtain ⟨⟨r5, z6⟩, hc10, h⟩ := Option.bind_eq_some_iff.mp h
      dsimp only at h
      refine q_cV1 (idx := 73) (v := .long r5) (h1 := (q_K0, z6.1, z6.2, q_R0)) [.ref o1, .ref 4, .ref o2] 21 4 2 [.ref o1] [.ref o2] rfl (by decide +kernel) (by decide +kernel) rfl (Nat.le_of_ble_eq_true rfl) rfl (by decide) (by decide +kernel) (by decide +kernel) (s_X2_advance ho1 hc10) ?_
      obtain ⟨⟨_, z8⟩, hc11, h⟩ := Option.bind_eq_some_iff.mp h
      dsimp only at h
      refine q_cV0 (idx := 77) (h1 := (q_K0, z8.1, z8.2, q_R0)) [.long r5, .ref o2] 55 o2 7 [.long r5] [] rfl (by decide +kernel) (by decide +kernel) rfl (Nat.le_of_ble_eq_true rfl) ho2 (by decide) (by decide +kernel) (by decide +kernel) (s_X8_follow ho2 hc11) ?_
      refine q_blk2 (pc2 := 32) (ls2 := [(3, .int (l3 + 1)), (0, .ref 4), (1, .ref o1), (2, .ref o2)]) (st2 := []) (h2 := (q_K0, z8.1, z8.2, q_R0)) [(.iinc 3 1, 0, 0, 0, 1, 0)] (by decide +kernel) rfl rfl ⟨trivial, trivial⟩ ?_
      refine q_goto (off := -26) (tgt := 6) (by decide +kernel) (by decide) ?_
      cases h
      refine q_pick [1, 2, 3, 0] rfl ?_
      exact k0 rfl
def T_X2_lead_35 (z : q_Z) (l3 : Int32) : Option (Int32 × q_Z) :=
  some (l3, z)
set_option maxRecDepth 100000 in
set_option maxHeartbeats 4000000 in
theorem t_X2_lead_35 {z zR : q_Z} {l3 : Int32} {rv : Int32} (h : T_X2_lead_35 z l3 = some (rv, zR)) : q_Ex none 22 35 [(3, .int l3)] [] (q_K0, z.1, z.2, q_R0) (some (.int rv)) (q_K0, zR.1, zR.2, q_R0) := by
  unfold T_X2_lead_35 at h
  refine q_blk2 (pc2 := 36) (ls2 := [(3, .int l3)]) (st2 := [.int l3]) (h2 := (q_K0, z.1, z.2, q_R0)) [(.iload_n 3, 0, 0, 0, 0, 0)] (by decide +kernel) rfl rfl ⟨trivial, trivial⟩ ?_
  cases h
  exact q_iret .int rfl rfl (by decide +kernel)
/-- RootForms$Ground.lead(LRootForms$Form;LRootForms$Way;)I -/
def F_X2_lead (o1 : Nat) (o2 : Nat) (z : q_Z) : Option (Int32 × q_Z) :=
  (F_X8_reset o2 z).bind fun (_, z2) =>
    (q_lp (B_X2_lead_6 o1 o2) q_fu (0, z2)).bind fun ((w13, z12), tg) =>
      if tg = 0 then
        T_X2_lead_35 z12 w13
      else none
set_option maxRecDepth 100000 in
set_option maxHeartbeats 4000000 in
theorem s_X2_lead {o1 : Nat} {o2 : Nat} (ho1 : q_kk o1 = some (.inl 1)) (ho2 : q_kk o2 = some (.inl 7)) {z zR : q_Z} {rv : Int32} (h : F_X2_lead o1 o2 z = some (rv, zR)) : q_Ca 22 [.ref 4, .ref o1, .ref o2] (q_K0, z.1, z.2, q_R0) (some (.int rv)) (q_K0, zR.1, zR.2, q_R0) := by
  refine q_Ca_of (by decide) (Nat.le_of_ble_eq_true rfl) ?_
  show q_Ex none 22 0 [(0, .ref 4), (1, .ref o1), (2, .ref o2)] [] (q_K0, z.1, z.2, q_R0) _ _
  unfold F_X2_lead at h
  refine q_blk2 (pc2 := 1) (ls2 := [(0, .ref 4), (1, .ref o1), (2, .ref o2)]) (st2 := [.ref o2]) (h2 := (q_K0, z.1, z.2, q_R0)) [(.aload_n 2, 0, 0, 0, 0, 0)] (by decide +kernel) rfl rfl ⟨trivial, trivial⟩ ?_
  obtain ⟨⟨_, z2⟩, hc14, h⟩ := Option.bind_eq_some_iff.mp h
  dsimp only at h
  refine q_cV0 (idx := 63) (h1 := (q_K0, z2.1, z2.2, q_R0)) [.ref o2] 54 o2 7 [] [] rfl (by decide +kernel) (by decide +kernel) rfl (Nat.le_of_ble_eq_true rfl) ho2 (by decide) (by decide +kernel) (by decide +kernel) (s_X8_reset ho2 hc14) ?_
  refine q_blk2 (pc2 := 6) (ls2 := [(3, .int 0), (0, .ref 4), (1, .ref o1), (2, .ref o2)]) (st2 := []) (h2 := (q_K0, z2.1, z2.2, q_R0)) [(.iconst 0, 0, 0, 0, 0, 0), (.istore_n 3, 0, 0, 0, 0, 0)] (by decide +kernel) rfl rfl ⟨trivial, trivial, trivial⟩ ?_
  obtain ⟨⟨⟨w13, z12⟩, tg16⟩, hl15, h⟩ := Option.bind_eq_some_iff.mp h
  dsimp only at h
  refine q_pick [1, 2, 3, 0] rfl ?_
  refine q_lp_ok (P := fun s => q_Ex _ 22 6 [(0, .ref 4), (1, .ref o1), (2, .ref o2), (3, .int s.1)] [] (q_K0, s.2.1, s.2.2, q_R0) _ _) (X := fun u s => (u = 0 → q_Ex _ 22 35 [(0, .ref 4), (1, .ref o1), (2, .ref o2), (3, .int s.1)] [] (q_K0, s.2.1, s.2.2, q_R0) _ _)) (fun s s2 t hh k0 kx => b_X2_lead_6 ho1 ho2 hh k0 (fun e => (kx 0 e) rfl)) hl15 ?_
  · intro e_tg16
    subst e_tg16
    rw [if_pos rfl] at h
    show q_Ex _ 22 35 [(0, .ref 4), (1, .ref o1), (2, .ref o2), (3, .int w13)] [] (q_K0, z12.1, z12.2, q_R0) _ _
    refine q_pick [3] rfl ?_
    exact t_X2_lead_35 h
def B_X2_ringLength_14 (o1 : Nat) : Int64 × Int64 × Int32 × q_Z → Option ((Int64 × Int64 × Int32 × q_Z) × Nat) := fun (l2, l4, l6, z) =>
  (F_X2_advance o1 z).bind fun (r1, z2) =>
    if (100000 : Int32) ≤ (l6 + 1) then
      some ((l2, l4, l6 + 1, z2), 1)
    else
      if (z2.2 o1 0) = l2 then
        if (z2.2 o1 1) = l4 then
          some ((l2, l4, l6 + 1, z2), 1)
        else
          some ((l2, l4, l6 + 1, z2), 0)
      else
        some ((l2, l4, l6 + 1, z2), 0)
set_option maxRecDepth 100000 in
set_option maxHeartbeats 4000000 in
theorem b_X2_ringLength_14 {o1 : Nat} (ho1 : q_kk o1 = some (.inl 1)) {s s2 : Int64 × Int64 × Int32 × q_Z} {t : Nat} {r : Option Value} {h2 : q_H} (h : B_X2_ringLength_14 o1 s = some (s2, t)) (k0 : t = 0 → q_Ex none 23 14 [(0, .ref 4), (1, .ref o1), (2, .long s2.1), (4, .long s2.2.1), (6, .int s2.2.2.1)] [] (q_K0, s2.2.2.2.1, s2.2.2.2.2, q_R0) r h2) (k1 : t = 1 → q_Ex none 23 49 [(0, .ref 4), (1, .ref o1), (2, .long s2.1), (4, .long s2.2.1), (6, .int s2.2.2.1)] [] (q_K0, s2.2.2.2.1, s2.2.2.2.2, q_R0) r h2) : q_Ex none 23 14 [(0, .ref 4), (1, .ref o1), (2, .long s.1), (4, .long s.2.1), (6, .int s.2.2.1)] [] (q_K0, s.2.2.2.1, s.2.2.2.2, q_R0) r h2 := by
  unfold B_X2_ringLength_14 at h
  obtain ⟨l2, l4, l6, z⟩ := s
  dsimp only at h
  show q_Ex none 23 14 [(0, .ref 4), (1, .ref o1), (2, .long l2), (4, .long l4), (6, .int l6)] [] (q_K0, z.1, z.2, q_R0) r h2
  refine q_blk2 (pc2 := 16) (ls2 := [(0, .ref 4), (1, .ref o1), (2, .long l2), (4, .long l4), (6, .int l6)]) (st2 := [.ref o1, .ref 4]) (h2 := (q_K0, z.1, z.2, q_R0)) [(.aload_n 0, 0, 0, 0, 0, 0), (.aload_n 1, 0, 0, 0, 0, 0)] (by decide +kernel) rfl rfl ⟨trivial, trivial, trivial⟩ ?_
  obtain ⟨⟨r1, z2⟩, hc3, h⟩ := Option.bind_eq_some_iff.mp h
  dsimp only at h
  refine q_cV1 (idx := 73) (v := .long r1) (h1 := (q_K0, z2.1, z2.2, q_R0)) [.ref o1, .ref 4] 21 4 2 [.ref o1] [] rfl (by decide +kernel) (by decide +kernel) rfl (Nat.le_of_ble_eq_true rfl) rfl (by decide) (by decide +kernel) (by decide +kernel) (s_X2_advance ho1 hc3) ?_
  refine q_blk2 (pc2 := 27) (ls2 := [(6, .int (l6 + 1)), (0, .ref 4), (1, .ref o1), (2, .long l2), (4, .long l4)]) (st2 := [.int 100000, .int (l6 + 1)]) (h2 := (q_K0, z2.1, z2.2, q_R0)) [(.pop2, 0, 0, 0, 0, 0), (.iinc 6 1, 0, 0, 0, 1, 0), (.iload 6, 0, 0, 0, 0, 0), (.ldc 68, 0, 0, 0, 100000, 0)] (by decide +kernel) rfl rfl ⟨trivial, trivial, trivial, trivial, trivial⟩ ?_
  refine q_ic_ge (off := 22) (tgt := 49) (by decide +kernel) (by decide) (fun c27_1 => ?_) (fun c27_1 => ?_)
  · rw [if_pos c27_1] at h
    cases h
    refine q_pick [1, 2, 3, 4, 0] rfl ?_
    exact k1 rfl
  · rw [if_neg c27_1] at h
    refine q_blk2 (pc2 := 35) (ls2 := [(6, .int (l6 + 1)), (0, .ref 4), (1, .ref o1), (2, .long l2), (4, .long l4)]) (st2 := [.long l2, .long (z2.2 o1 0)]) (h2 := (q_K0, z2.1, z2.2, q_R0)) [(.aload_n 1, 0, 0, 0, 0, 0), (.getfield 46, 0, 1, 0, 0, 0), (.lload_n 2, 0, 0, 0, 0, 0)] (by decide +kernel) rfl rfl ⟨trivial, ho1, trivial, trivial⟩ ?_
    refine q_lc_ne (off := -22) (tgt := 14) (by decide +kernel) (by decide +kernel) (by decide) (fun c35_2 => ?_) (fun c35_2 => ?_)
    · rw [if_neg c35_2] at h
      cases h
      refine q_pick [1, 2, 3, 4, 0] rfl ?_
      exact k0 rfl
    · rw [if_pos c35_2] at h
      refine q_blk2 (pc2 := 45) (ls2 := [(6, .int (l6 + 1)), (0, .ref 4), (1, .ref o1), (2, .long l2), (4, .long l4)]) (st2 := [.long l4, .long (z2.2 o1 1)]) (h2 := (q_K0, z2.1, z2.2, q_R0)) [(.aload_n 1, 0, 0, 0, 0, 0), (.getfield 53, 0, 1, 1, 0, 0), (.lload 4, 0, 0, 0, 0, 0)] (by decide +kernel) rfl rfl ⟨trivial, ho1, trivial, trivial⟩ ?_
      refine q_lc_ne (off := -32) (tgt := 14) (by decide +kernel) (by decide +kernel) (by decide) (fun c45_3 => ?_) (fun c45_3 => ?_)
      · rw [if_neg c45_3] at h
        cases h
        refine q_pick [1, 2, 3, 4, 0] rfl ?_
        exact k0 rfl
      · rw [if_pos c45_3] at h
        cases h
        refine q_pick [1, 2, 3, 4, 0] rfl ?_
        exact k1 rfl
def T_X2_ringLength_49 (z : q_Z) (l6 : Int32) : Option (Int32 × q_Z) :=
  some (l6, z)
set_option maxRecDepth 100000 in
set_option maxHeartbeats 4000000 in
theorem t_X2_ringLength_49 {z zR : q_Z} {l6 : Int32} {rv : Int32} (h : T_X2_ringLength_49 z l6 = some (rv, zR)) : q_Ex none 23 49 [(6, .int l6)] [] (q_K0, z.1, z.2, q_R0) (some (.int rv)) (q_K0, zR.1, zR.2, q_R0) := by
  unfold T_X2_ringLength_49 at h
  refine q_blk2 (pc2 := 51) (ls2 := [(6, .int l6)]) (st2 := [.int l6]) (h2 := (q_K0, z.1, z.2, q_R0)) [(.iload 6, 0, 0, 0, 0, 0)] (by decide +kernel) rfl rfl ⟨trivial, trivial⟩ ?_
  cases h
  exact q_iret .int rfl rfl (by decide +kernel)
/-- RootForms$Ground.ringLength(LRootForms$Form;)I -/
def F_X2_ringLength (o1 : Nat) (z : q_Z) : Option (Int32 × q_Z) :=
  (q_lp (B_X2_ringLength_14 o1) q_fu (z.2 o1 0, z.2 o1 1, 0, z)).bind fun ((w5, w6, w7, z4), tg) =>
    if tg = 0 then
      T_X2_ringLength_49 z4 w7
    else none
set_option maxRecDepth 100000 in
set_option maxHeartbeats 4000000 in
theorem s_X2_ringLength {o1 : Nat} (ho1 : q_kk o1 = some (.inl 1)) {z zR : q_Z} {rv : Int32} (h : F_X2_ringLength o1 z = some (rv, zR)) : q_Ca 23 [.ref 4, .ref o1] (q_K0, z.1, z.2, q_R0) (some (.int rv)) (q_K0, zR.1, zR.2, q_R0) := by
  refine q_Ca_of (by decide) (Nat.le_of_ble_eq_true rfl) ?_
  show q_Ex none 23 0 [(0, .ref 4), (1, .ref o1)] [] (q_K0, z.1, z.2, q_R0) _ _
  unfold F_X2_ringLength at h
  refine q_blk2 (pc2 := 14) (ls2 := [(6, .int 0), (4, .long (z.2 o1 1)), (2, .long (z.2 o1 0)), (0, .ref 4), (1, .ref o1)]) (st2 := []) (h2 := (q_K0, z.1, z.2, q_R0)) [(.aload_n 1, 0, 0, 0, 0, 0), (.getfield 46, 0, 1, 0, 0, 0), (.lstore_n 2, 0, 0, 0, 0, 0), (.aload_n 1, 0, 0, 0, 0, 0), (.getfield 53, 0, 1, 1, 0, 0), (.lstore 4, 0, 0, 0, 0, 0), (.iconst 0, 0, 0, 0, 0, 0), (.istore 6, 0, 0, 0, 0, 0)] (by decide +kernel) rfl rfl ⟨trivial, ho1, trivial, trivial, ho1, trivial, trivial, trivial, trivial⟩ ?_
  obtain ⟨⟨⟨w5, w6, w7, z4⟩, tg9⟩, hl8, h⟩ := Option.bind_eq_some_iff.mp h
  dsimp only at h
  refine q_pick [3, 4, 2, 1, 0] rfl ?_
  refine q_lp_ok (P := fun s => q_Ex _ 23 14 [(0, .ref 4), (1, .ref o1), (2, .long s.1), (4, .long s.2.1), (6, .int s.2.2.1)] [] (q_K0, s.2.2.2.1, s.2.2.2.2, q_R0) _ _) (X := fun u s => (u = 0 → q_Ex _ 23 49 [(0, .ref 4), (1, .ref o1), (2, .long s.1), (4, .long s.2.1), (6, .int s.2.2.1)] [] (q_K0, s.2.2.2.1, s.2.2.2.2, q_R0) _ _)) (fun s s2 t hh k0 kx => b_X2_ringLength_14 ho1 hh k0 (fun e => (kx 0 e) rfl)) hl8 ?_
  · intro e_tg9
    subst e_tg9
    rw [if_pos rfl] at h
    show q_Ex _ 23 49 [(0, .ref 4), (1, .ref o1), (2, .long w5), (4, .long w6), (6, .int w7)] [] (q_K0, z4.1, z4.2, q_R0) _ _
    refine q_pick [4] rfl ?_
    exact t_X2_ringLength_49 h
/-- RootForms$Way.worth()J -/
def F_X8_worth (o0 : Nat) (z : q_Z) : Option (Int64 × q_Z) :=
  some (((z.2 o0 0) * (z.2 o0 3)) - ((z.2 o0 1) * (z.2 o0 2)), z)
set_option maxRecDepth 100000 in
set_option maxHeartbeats 4000000 in
theorem s_X8_worth {o0 : Nat} (ho0 : q_kk o0 = some (.inl 7)) {z zR : q_Z} {rv : Int64} (h : F_X8_worth o0 z = some (rv, zR)) : q_Ca 56 [.ref o0] (q_K0, z.1, z.2, q_R0) (some (.long rv)) (q_K0, zR.1, zR.2, q_R0) := by
  refine q_Ca_of (by decide) (Nat.le_of_ble_eq_true rfl) ?_
  show q_Ex none 56 0 [(0, .ref o0)] [] (q_K0, z.1, z.2, q_R0) _ _
  unfold F_X8_worth at h
  refine q_blk2 (pc2 := 19) (ls2 := [(0, .ref o0)]) (st2 := [.long (((z.2 o0 0) * (z.2 o0 3)) - ((z.2 o0 1) * (z.2 o0 2)))]) (h2 := (q_K0, z.1, z.2, q_R0)) [(.aload_n 0, 0, 0, 0, 0, 0), (.getfield 7, 0, 7, 0, 0, 0), (.aload_n 0, 0, 0, 0, 0, 0), (.getfield 13, 0, 7, 3, 0, 0), (.lmul, 0, 0, 0, 0, 0), (.aload_n 0, 0, 0, 0, 0, 0), (.getfield 16, 0, 7, 1, 0, 0), (.aload_n 0, 0, 0, 0, 0, 0), (.getfield 19, 0, 7, 2, 0, 0), (.lmul, 0, 0, 0, 0, 0), (.lsub, 0, 0, 0, 0, 0)] (by decide +kernel) rfl rfl ⟨trivial, ho0, trivial, ho0, trivial, trivial, ho0, trivial, ho0, trivial, trivial, trivial⟩ ?_
  cases h
  exact q_lret rfl (by decide +kernel)
def T_X8_leads_116 (z : q_Z) : Option (Int32 × q_Z) :=
  some (0, z)
set_option maxRecDepth 100000 in
set_option maxHeartbeats 4000000 in
theorem t_X8_leads_116 {z zR : q_Z} {rv : Int32} (h : T_X8_leads_116 z = some (rv, zR)) : q_Ex none 57 116 [] [] (q_K0, z.1, z.2, q_R0) (some (.int rv)) (q_K0, zR.1, zR.2, q_R0) := by
  unfold T_X8_leads_116 at h
  refine q_blk2 (pc2 := 117) (ls2 := []) (st2 := [.int 0]) (h2 := (q_K0, z.1, z.2, q_R0)) [(.iconst 0, 0, 0, 0, 0, 0)] (by decide +kernel) rfl rfl ⟨trivial, trivial⟩ ?_
  cases h
  exact q_iret .boolean rfl rfl (by decide +kernel)
/-- RootForms$Way.leads(LRootForms$Form;LRootForms$Form;)Z -/
def F_X8_leads (o0 : Nat) (o1 : Nat) (o2 : Nat) (z : q_Z) : Option (Int32 × q_Z) :=
  (F_X1_worthAt o1 z (z.2 o0 0) (z.2 o0 2)).bind fun (r1, z2) =>
    if r1 = (z2.2 o2 0) then
      if (((((2 * (z.2 o1 0)) * (z.2 o0 0)) * (z.2 o0 1)) + ((z.2 o1 1) * (((z.2 o0 0) * (z.2 o0 3)) + ((z.2 o0 1) * (z.2 o0 2))))) + (((2 * (z.2 o1 2)) * (z.2 o0 2)) * (z.2 o0 3))) = (z2.2 o2 1) then
        (F_X1_worthAt o1 z2 (z2.2 o0 1) (z2.2 o0 3)).bind fun (r3, z4) =>
          if r3 = (z4.2 o2 2) then
            some (1, z4)
          else
            T_X8_leads_116 z4
      else
        T_X8_leads_116 z2
    else
      T_X8_leads_116 z2
set_option maxRecDepth 100000 in
set_option maxHeartbeats 4000000 in
theorem s_X8_leads {o0 : Nat} {o1 : Nat} {o2 : Nat} (ho0 : q_kk o0 = some (.inl 7)) (ho1 : q_kk o1 = some (.inl 1)) (ho2 : q_kk o2 = some (.inl 1)) {z zR : q_Z} {rv : Int32} (h : F_X8_leads o0 o1 o2 z = some (rv, zR)) : q_Ca 57 [.ref o0, .ref o1, .ref o2] (q_K0, z.1, z.2, q_R0) (some (.int rv)) (q_K0, zR.1, zR.2, q_R0) := by
  refine q_Ca_of (by decide) (Nat.le_of_ble_eq_true rfl) ?_
  show q_Ex none 57 0 [(0, .ref o0), (1, .ref o1), (2, .ref o2)] [] (q_K0, z.1, z.2, q_R0) _ _
  unfold F_X8_leads at h
  refine q_blk2 (pc2 := 72) (ls2 := [(3, .long (((((2 * (z.2 o1 0)) * (z.2 o0 0)) * (z.2 o0 1)) + ((z.2 o1 1) * (((z.2 o0 0) * (z.2 o0 3)) + ((z.2 o0 1) * (z.2 o0 2))))) + (((2 * (z.2 o1 2)) * (z.2 o0 2)) * (z.2 o0 3)))), (0, .ref o0), (1, .ref o1), (2, .ref o2)]) (st2 := [.long (z.2 o0 2), .long (z.2 o0 0), .ref o1]) (h2 := (q_K0, z.1, z.2, q_R0)) [(.ldc2_w 26, 0, 0, 0, 0, 2), (.aload_n 1, 0, 0, 0, 0, 0), (.getfield 28, 0, 1, 0, 0, 0), (.lmul, 0, 0, 0, 0, 0), (.aload_n 0, 0, 0, 0, 0, 0), (.getfield 7, 0, 7, 0, 0, 0), (.lmul, 0, 0, 0, 0, 0), (.aload_n 0, 0, 0, 0, 0, 0), (.getfield 16, 0, 7, 1, 0, 0), (.lmul, 0, 0, 0, 0, 0), (.aload_n 1, 0, 0, 0, 0, 0), (.getfield 33, 0, 1, 1, 0, 0), (.aload_n 0, 0, 0, 0, 0, 0), (.getfield 7, 0, 7, 0, 0, 0), (.aload_n 0, 0, 0, 0, 0, 0), (.getfield 13, 0, 7, 3, 0, 0), (.lmul, 0, 0, 0, 0, 0), (.aload_n 0, 0, 0, 0, 0, 0), (.getfield 16, 0, 7, 1, 0, 0), (.aload_n 0, 0, 0, 0, 0, 0), (.getfield 19, 0, 7, 2, 0, 0), (.lmul, 0, 0, 0, 0, 0), (.ladd, 0, 0, 0, 0, 0), (.lmul, 0, 0, 0, 0, 0), (.ladd, 0, 0, 0, 0, 0), (.ldc2_w 26, 0, 0, 0, 0, 2), (.aload_n 1, 0, 0, 0, 0, 0), (.getfield 36, 0, 1, 2, 0, 0), (.lmul, 0, 0, 0, 0, 0), (.aload_n 0, 0, 0, 0, 0, 0), (.getfield 19, 0, 7, 2, 0, 0), (.lmul, 0, 0, 0, 0, 0), (.aload_n 0, 0, 0, 0, 0, 0), (.getfield 13, 0, 7, 3, 0, 0), (.lmul, 0, 0, 0, 0, 0), (.ladd, 0, 0, 0, 0, 0), (.lstore_n 3, 0, 0, 0, 0, 0), (.aload_n 1, 0, 0, 0, 0, 0), (.aload_n 0, 0, 0, 0, 0, 0), (.getfield 7, 0, 7, 0, 0, 0), (.aload_n 0, 0, 0, 0, 0, 0), (.getfield 19, 0, 7, 2, 0, 0)] (by decide +kernel) rfl rfl ⟨trivial, trivial, ho1, trivial, trivial, ho0, trivial, trivial, ho0, trivial, trivial, ho1, trivial, ho0, trivial, ho0, trivial, trivial, ho0, trivial, ho0, trivial, trivial, trivial, trivial, trivial, trivial, ho1, trivial, trivial, ho0, trivial, trivial, ho0, trivial, trivial, trivial, trivial, trivial, ho0, trivial, ho0, trivial⟩ ?_
  obtain ⟨⟨r1, z2⟩, hc5, h⟩ := Option.bind_eq_some_iff.mp h
  dsimp only at h
  refine q_cV1 (idx := 39) (v := .long r1) (h1 := (q_K0, z2.1, z2.2, q_R0)) [.long (z.2 o0 2), .long (z.2 o0 0), .ref o1] 15 o1 1 [.long (z.2 o0 0), .long (z.2 o0 2)] [] rfl (by decide +kernel) (by decide +kernel) rfl (Nat.le_of_ble_eq_true rfl) ho1 (by decide) (by decide +kernel) (by decide +kernel) (s_X1_worthAt ho1 hc5) ?_
  refine q_blk2 (pc2 := 79) (ls2 := [(3, .long (((((2 * (z.2 o1 0)) * (z.2 o0 0)) * (z.2 o0 1)) + ((z.2 o1 1) * (((z.2 o0 0) * (z.2 o0 3)) + ((z.2 o0 1) * (z.2 o0 2))))) + (((2 * (z.2 o1 2)) * (z.2 o0 2)) * (z.2 o0 3)))), (0, .ref o0), (1, .ref o1), (2, .ref o2)]) (st2 := [.long (z2.2 o2 0), .long r1]) (h2 := (q_K0, z2.1, z2.2, q_R0)) [(.aload_n 2, 0, 0, 0, 0, 0), (.getfield 28, 0, 1, 0, 0, 0)] (by decide +kernel) rfl rfl ⟨trivial, ho2, trivial⟩ ?_
  refine q_lc_ne (off := 36) (tgt := 116) (by decide +kernel) (by decide +kernel) (by decide) (fun c79_1 => ?_) (fun c79_1 => ?_)
  · rw [if_neg c79_1] at h
    refine q_pick [] rfl ?_
    exact t_X8_leads_116 h
  · rw [if_pos c79_1] at h
    refine q_blk2 (pc2 := 88) (ls2 := [(3, .long (((((2 * (z.2 o1 0)) * (z.2 o0 0)) * (z.2 o0 1)) + ((z.2 o1 1) * (((z.2 o0 0) * (z.2 o0 3)) + ((z.2 o0 1) * (z.2 o0 2))))) + (((2 * (z.2 o1 2)) * (z.2 o0 2)) * (z.2 o0 3)))), (0, .ref o0), (1, .ref o1), (2, .ref o2)]) (st2 := [.long (z2.2 o2 1), .long (((((2 * (z.2 o1 0)) * (z.2 o0 0)) * (z.2 o0 1)) + ((z.2 o1 1) * (((z.2 o0 0) * (z.2 o0 3)) + ((z.2 o0 1) * (z.2 o0 2))))) + (((2 * (z.2 o1 2)) * (z.2 o0 2)) * (z.2 o0 3)))]) (h2 := (q_K0, z2.1, z2.2, q_R0)) [(.lload_n 3, 0, 0, 0, 0, 0), (.aload_n 2, 0, 0, 0, 0, 0), (.getfield 33, 0, 1, 1, 0, 0)] (by decide +kernel) rfl rfl ⟨trivial, trivial, ho2, trivial⟩ ?_
    refine q_lc_ne (off := 27) (tgt := 116) (by decide +kernel) (by decide +kernel) (by decide) (fun c88_2 => ?_) (fun c88_2 => ?_)
    · rw [if_neg c88_2] at h
      refine q_pick [] rfl ?_
      exact t_X8_leads_116 h
    · rw [if_pos c88_2] at h
      refine q_blk2 (pc2 := 101) (ls2 := [(3, .long (((((2 * (z.2 o1 0)) * (z.2 o0 0)) * (z.2 o0 1)) + ((z.2 o1 1) * (((z.2 o0 0) * (z.2 o0 3)) + ((z.2 o0 1) * (z.2 o0 2))))) + (((2 * (z.2 o1 2)) * (z.2 o0 2)) * (z.2 o0 3)))), (0, .ref o0), (1, .ref o1), (2, .ref o2)]) (st2 := [.long (z2.2 o0 3), .long (z2.2 o0 1), .ref o1]) (h2 := (q_K0, z2.1, z2.2, q_R0)) [(.aload_n 1, 0, 0, 0, 0, 0), (.aload_n 0, 0, 0, 0, 0, 0), (.getfield 16, 0, 7, 1, 0, 0), (.aload_n 0, 0, 0, 0, 0, 0), (.getfield 13, 0, 7, 3, 0, 0)] (by decide +kernel) rfl rfl ⟨trivial, trivial, ho0, trivial, ho0, trivial⟩ ?_
      obtain ⟨⟨r3, z4⟩, hc6, h⟩ := Option.bind_eq_some_iff.mp h
      dsimp only at h
      refine q_cV1 (idx := 39) (v := .long r3) (h1 := (q_K0, z4.1, z4.2, q_R0)) [.long (z2.2 o0 3), .long (z2.2 o0 1), .ref o1] 15 o1 1 [.long (z2.2 o0 1), .long (z2.2 o0 3)] [] rfl (by decide +kernel) (by decide +kernel) rfl (Nat.le_of_ble_eq_true rfl) ho1 (by decide) (by decide +kernel) (by decide +kernel) (s_X1_worthAt ho1 hc6) ?_
      refine q_blk2 (pc2 := 108) (ls2 := [(3, .long (((((2 * (z.2 o1 0)) * (z.2 o0 0)) * (z.2 o0 1)) + ((z.2 o1 1) * (((z.2 o0 0) * (z.2 o0 3)) + ((z.2 o0 1) * (z.2 o0 2))))) + (((2 * (z.2 o1 2)) * (z.2 o0 2)) * (z.2 o0 3)))), (0, .ref o0), (1, .ref o1), (2, .ref o2)]) (st2 := [.long (z4.2 o2 2), .long r3]) (h2 := (q_K0, z4.1, z4.2, q_R0)) [(.aload_n 2, 0, 0, 0, 0, 0), (.getfield 36, 0, 1, 2, 0, 0)] (by decide +kernel) rfl rfl ⟨trivial, ho2, trivial⟩ ?_
      refine q_lc_ne (off := 7) (tgt := 116) (by decide +kernel) (by decide +kernel) (by decide) (fun c108_3 => ?_) (fun c108_3 => ?_)
      · rw [if_neg c108_3] at h
        refine q_pick [] rfl ?_
        exact t_X8_leads_116 h
      · rw [if_pos c108_3] at h
        refine q_blk2 (pc2 := 113) (ls2 := [(3, .long (((((2 * (z.2 o1 0)) * (z.2 o0 0)) * (z.2 o0 1)) + ((z.2 o1 1) * (((z.2 o0 0) * (z.2 o0 3)) + ((z.2 o0 1) * (z.2 o0 2))))) + (((2 * (z.2 o1 2)) * (z.2 o0 2)) * (z.2 o0 3)))), (0, .ref o0), (1, .ref o1), (2, .ref o2)]) (st2 := [.int 1]) (h2 := (q_K0, z4.1, z4.2, q_R0)) [(.iconst 1, 0, 0, 0, 1, 0)] (by decide +kernel) rfl rfl ⟨trivial, trivial⟩ ?_
        refine q_goto (off := 4) (tgt := 117) (by decide +kernel) (by decide) ?_
        cases h
        exact q_iret .boolean rfl rfl (by decide +kernel)
