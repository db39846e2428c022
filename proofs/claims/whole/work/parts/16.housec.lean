/-! pure functions of the methods, and that the methods do what they say (written by wip/whole/dec.py) -/
def T_X9_squares_11 (z : q_Z) : Option (Int32 × q_Z) :=
  (F_X9_refuse z 1).bind fun (r1, z2) =>
    some (r1, z2)
set_option maxRecDepth 100000 in
set_option maxHeartbeats 4000000 in
theorem t_X9_squares_11 {z zR : q_Z} {rv : Int32} (h : T_X9_squares_11 z = some (rv, zR)) : q_Ex none 84 11 [(0, .ref 1)] [] (q_K0, z.1, z.2, q_R0) (some (.int rv)) (q_K0, zR.1, zR.2, q_R0) := by
  unfold T_X9_squares_11 at h
  refine q_blk2 (pc2 := 13) (ls2 := [(0, .ref 1)]) (st2 := [.int 1, .ref 1]) (h2 := (q_K0, z.1, z.2, q_R0)) [(.aload_n 0, 0, 0, 0, 0, 0), (.iconst 1, 0, 0, 0, 1, 0)] (by decide +kernel) rfl rfl ⟨trivial, trivial, trivial⟩ ?_
  obtain ⟨⟨r1, z2⟩, hc3, h⟩ := Option.bind_eq_some_iff.mp h
  dsimp only at h
  refine q_cV1 (idx := 86) (v := .int r1) (h1 := (q_K0, z2.1, z2.2, q_R0)) [.int 1, .ref 1] 89 1 8 [.int 1] [] rfl (by decide +kernel) (by decide +kernel) rfl (Nat.le_of_ble_eq_true rfl) rfl (by decide) (by decide +kernel) (by decide +kernel) (s_X9_refuse hc3) ?_
  cases h
  exact q_iret .int rfl rfl (by decide +kernel)
/-- RootForms.squares(I)I -/
def F_X9_squares (z : q_Z) (l1 : Int32) : Option (Int32 × q_Z) :=
  if l1 < (0 : Int32) then
    T_X9_squares_11 z
  else
    if l1 ≤ (1000000000 : Int32) then
      (F_X4_clear z).bind fun (_, z5) =>
        (F_X9_countSquares z5 l1).bind fun (r6, z7) =>
          (F_X9_accept z7 r6).bind fun (r8, z9) =>
            some (r8, z9)
    else
      T_X9_squares_11 z
set_option maxRecDepth 100000 in
set_option maxHeartbeats 4000000 in
theorem s_X9_squares {z zR : q_Z} {l1 : Int32} {rv : Int32} (h : F_X9_squares z l1 = some (rv, zR)) : q_Ca 84 [.ref 1, .int l1] (q_K0, z.1, z.2, q_R0) (some (.int rv)) (q_K0, zR.1, zR.2, q_R0) := by
  refine q_Ca_of (by decide) (Nat.le_of_ble_eq_true rfl) ?_
  show q_Ex none 84 0 [(0, .ref 1), (1, .int l1)] [] (q_K0, z.1, z.2, q_R0) _ _
  unfold F_X9_squares at h
  refine q_blk2 (pc2 := 1) (ls2 := [(0, .ref 1), (1, .int l1)]) (st2 := [.int l1]) (h2 := (q_K0, z.1, z.2, q_R0)) [(.iload_n 1, 0, 0, 0, 0, 0)] (by decide +kernel) rfl rfl ⟨trivial, trivial⟩ ?_
  refine q_if_lt (off := 10) (tgt := 11) (by decide +kernel) (by decide) (fun c1_1 => ?_) (fun c1_1 => ?_)
  · rw [if_pos c1_1] at h
    refine q_pick [0] rfl ?_
    exact t_X9_squares_11 h
  · rw [if_neg c1_1] at h
    refine q_blk2 (pc2 := 8) (ls2 := [(0, .ref 1), (1, .int l1)]) (st2 := [.int 1000000000, .int l1]) (h2 := (q_K0, z.1, z.2, q_R0)) [(.iload_n 1, 0, 0, 0, 0, 0), (.ldc_w 256, 0, 0, 0, 1000000000, 0)] (by decide +kernel) rfl rfl ⟨trivial, trivial, trivial⟩ ?_
    refine q_ic_le (off := 9) (tgt := 17) (by decide +kernel) (by decide) (fun c8_2 => ?_) (fun c8_2 => ?_)
    · rw [if_pos c8_2] at h
      refine q_blk2 (pc2 := 21) (ls2 := [(0, .ref 1), (1, .int l1)]) (st2 := [.ref 122]) (h2 := (q_K0, z.1, z.2, q_R0)) [(.aload_n 0, 0, 0, 0, 0, 0), (.getfield 45, 0, 8, 5, 0, 0)] (by decide +kernel) rfl rfl ⟨trivial, rfl, trivial⟩ ?_
      obtain ⟨⟨_, z5⟩, hc10, h⟩ := Option.bind_eq_some_iff.mp h
      dsimp only at h
      refine q_cV0 (idx := 247) (h1 := (q_K0, z5.1, z5.2, q_R0)) [.ref 122] 33 122 4 [] [] rfl (by decide +kernel) (by decide +kernel) rfl (Nat.le_of_ble_eq_true rfl) rfl (by decide) (by decide +kernel) (by decide +kernel) (s_X4_clear hc10) ?_
      refine q_blk2 (pc2 := 27) (ls2 := [(0, .ref 1), (1, .int l1)]) (st2 := [.int l1, .ref 1, .ref 1]) (h2 := (q_K0, z5.1, z5.2, q_R0)) [(.aload_n 0, 0, 0, 0, 0, 0), (.aload_n 0, 0, 0, 0, 0, 0), (.iload_n 1, 0, 0, 0, 0, 0)] (by decide +kernel) rfl rfl ⟨trivial, trivial, trivial, trivial⟩ ?_
      obtain ⟨⟨r6, z7⟩, hc11, h⟩ := Option.bind_eq_some_iff.mp h
      dsimp only at h
      refine q_cV1 (idx := 257) (v := .int r6) (h1 := (q_K0, z7.1, z7.2, q_R0)) [.int l1, .ref 1, .ref 1] 96 1 8 [.int l1] [.ref 1] rfl (by decide +kernel) (by decide +kernel) rfl (Nat.le_of_ble_eq_true rfl) rfl (by decide) (by decide +kernel) (by decide +kernel) (s_X9_countSquares hc11) ?_
      obtain ⟨⟨r8, z9⟩, hc12, h⟩ := Option.bind_eq_some_iff.mp h
      dsimp only at h
      refine q_cV1 (idx := 106) (v := .int r8) (h1 := (q_K0, z9.1, z9.2, q_R0)) [.int r6, .ref 1] 90 1 8 [.int r6] [] rfl (by decide +kernel) (by decide +kernel) rfl (Nat.le_of_ble_eq_true rfl) rfl (by decide) (by decide +kernel) (by decide +kernel) (s_X9_accept hc12) ?_
      cases h
      exact q_iret .int rfl rfl (by decide +kernel)
    · rw [if_neg c8_2] at h
      refine q_pick [0] rfl ?_
      exact t_X9_squares_11 h
def T_X9_pair_22 (z : q_Z) : Option (Int32 × q_Z) :=
  some ((-2147483648), z)
set_option maxRecDepth 100000 in
set_option maxHeartbeats 4000000 in
theorem t_X9_pair_22 {z zR : q_Z} {rv : Int32} (h : T_X9_pair_22 z = some (rv, zR)) : q_Ex none 85 22 [] [] (q_K0, z.1, z.2, q_R0) (some (.int rv)) (q_K0, zR.1, zR.2, q_R0) := by
  unfold T_X9_pair_22 at h
  refine q_blk2 (pc2 := 25) (ls2 := []) (st2 := [.int (-2147483648)]) (h2 := (q_K0, z.1, z.2, q_R0)) [(.ldc_w 265, 0, 0, 0, (-2147483648), 0)] (by decide +kernel) rfl rfl ⟨trivial, trivial⟩ ?_
  cases h
  exact q_iret .int rfl rfl (by decide +kernel)
/-- RootForms.pair(IZ)I -/
def F_X9_pair (z : q_Z) (l1 : Int32) (l2 : Int32) : Option (Int32 × q_Z) :=
  if l1 < (0 : Int32) then
    T_X9_pair_22 z
  else
    if (z.1 122 2) ≤ l1 then
      T_X9_pair_22 z
    else
      if l1 < (200 : Int32) then
        if l2 = (0 : Int32) then
          if 0 ≤ Int32.toInt l1 ∧ Int32.toInt l1 < 200 then
            some (z.1 123 (Int32.toNatClampNeg l1), z)
          else none
        else
          if 0 ≤ Int32.toInt l1 ∧ Int32.toInt l1 < 200 then
            some (z.1 124 (Int32.toNatClampNeg l1), z)
          else none
      else
        T_X9_pair_22 z
set_option maxRecDepth 100000 in
set_option maxHeartbeats 4000000 in
theorem s_X9_pair {z zR : q_Z} {l1 : Int32} {l2 : Int32} {rv : Int32} (h : F_X9_pair z l1 l2 = some (rv, zR)) : q_Ca 85 [.ref 1, .int l1, .int l2] (q_K0, z.1, z.2, q_R0) (some (.int rv)) (q_K0, zR.1, zR.2, q_R0) := by
  refine q_Ca_of (by decide) (Nat.le_of_ble_eq_true rfl) ?_
  show q_Ex none 85 0 [(0, .ref 1), (1, .int l1), (2, .int l2)] [] (q_K0, z.1, z.2, q_R0) _ _
  unfold F_X9_pair at h
  refine q_blk2 (pc2 := 1) (ls2 := [(0, .ref 1), (1, .int l1), (2, .int l2)]) (st2 := [.int l1]) (h2 := (q_K0, z.1, z.2, q_R0)) [(.iload_n 1, 0, 0, 0, 0, 0)] (by decide +kernel) rfl rfl ⟨trivial, trivial⟩ ?_
  refine q_if_lt (off := 21) (tgt := 22) (by decide +kernel) (by decide) (fun c1_1 => ?_) (fun c1_1 => ?_)
  · rw [if_pos c1_1] at h
    refine q_pick [] rfl ?_
    exact t_X9_pair_22 h
  · rw [if_neg c1_1] at h
    refine q_blk2 (pc2 := 12) (ls2 := [(0, .ref 1), (1, .int l1), (2, .int l2)]) (st2 := [.int (z.1 122 2), .int l1]) (h2 := (q_K0, z.1, z.2, q_R0)) [(.iload_n 1, 0, 0, 0, 0, 0), (.aload_n 0, 0, 0, 0, 0, 0), (.getfield 45, 0, 8, 5, 0, 0), (.getfield 260, 0, 4, 2, 0, 0)] (by decide +kernel) rfl rfl ⟨trivial, trivial, rfl, rfl, trivial⟩ ?_
    refine q_ic_ge (off := 10) (tgt := 22) (by decide +kernel) (by decide) (fun c12_2 => ?_) (fun c12_2 => ?_)
    · rw [if_pos c12_2] at h
      refine q_pick [] rfl ?_
      exact t_X9_pair_22 h
    · rw [if_neg c12_2] at h
      refine q_blk2 (pc2 := 19) (ls2 := [(0, .ref 1), (1, .int l1), (2, .int l2)]) (st2 := [.int 200, .int l1]) (h2 := (q_K0, z.1, z.2, q_R0)) [(.iload_n 1, 0, 0, 0, 0, 0), (.sipush 200, 0, 0, 0, 200, 0)] (by decide +kernel) rfl rfl ⟨trivial, trivial, trivial⟩ ?_
      refine q_ic_lt (off := 7) (tgt := 26) (by decide +kernel) (by decide) (fun c19_3 => ?_) (fun c19_3 => ?_)
      · rw [if_pos c19_3] at h
        refine q_blk2 (pc2 := 27) (ls2 := [(0, .ref 1), (1, .int l1), (2, .int l2)]) (st2 := [.int l2]) (h2 := (q_K0, z.1, z.2, q_R0)) [(.iload_n 2, 0, 0, 0, 0, 0)] (by decide +kernel) rfl rfl ⟨trivial, trivial⟩ ?_
        refine q_if_eq (off := 15) (tgt := 42) (by decide +kernel) (by decide) (fun c27_4 => ?_) (fun c27_4 => ?_)
        · rw [if_pos c27_4] at h
          have b1 : 0 ≤ Int32.toInt l1 ∧ Int32.toInt l1 < 200 := by
            by_cases q : 0 ≤ Int32.toInt l1 ∧ Int32.toInt l1 < 200
            · exact q
            · rw [if_neg q] at h; cases h
          rw [if_pos b1] at h
          refine q_blk2 (pc2 := 51) (ls2 := [(0, .ref 1), (1, .int l1), (2, .int l2)]) (st2 := [.int (z.1 123 (Int32.toNatClampNeg l1))]) (h2 := (q_K0, z.1, z.2, q_R0)) [(.aload_n 0, 0, 0, 0, 0, 0), (.getfield 45, 0, 8, 5, 0, 0), (.getfield 269, 0, 4, 0, 0, 0), (.iload_n 1, 0, 0, 0, 0, 0), (.iaload, 0, 0, 0, 0, 0)] (by decide +kernel) rfl rfl ⟨trivial, rfl, rfl, trivial, ⟨_, rfl, vp_in_iff.mpr b1⟩, trivial⟩ ?_
          cases h
          exact q_iret .int rfl rfl (by decide +kernel)
        · rw [if_neg c27_4] at h
          have b2 : 0 ≤ Int32.toInt l1 ∧ Int32.toInt l1 < 200 := by
            by_cases q : 0 ≤ Int32.toInt l1 ∧ Int32.toInt l1 < 200
            · exact q
            · rw [if_neg q] at h; cases h
          rw [if_pos b2] at h
          refine q_blk2 (pc2 := 39) (ls2 := [(0, .ref 1), (1, .int l1), (2, .int l2)]) (st2 := [.int (z.1 124 (Int32.toNatClampNeg l1))]) (h2 := (q_K0, z.1, z.2, q_R0)) [(.aload_n 0, 0, 0, 0, 0, 0), (.getfield 45, 0, 8, 5, 0, 0), (.getfield 266, 0, 4, 1, 0, 0), (.iload_n 1, 0, 0, 0, 0, 0), (.iaload, 0, 0, 0, 0, 0)] (by decide +kernel) rfl rfl ⟨trivial, rfl, rfl, trivial, ⟨_, rfl, vp_in_iff.mpr b2⟩, trivial⟩ ?_
          refine q_goto (off := 12) (tgt := 51) (by decide +kernel) (by decide) ?_
          cases h
          exact q_iret .int rfl rfl (by decide +kernel)
      · rw [if_neg c19_3] at h
        refine q_pick [] rfl ?_
        exact t_X9_pair_22 h
/-- RootForms.undo()I -/
def F_X9_undo (z : q_Z) : Option (Int32 × q_Z) :=
  (F_X6_takeBack z).bind fun (r1, z2) =>
    if r1 = (0 : Int32) then
      some (0, z2)
    else
      some (1, z2)
set_option maxRecDepth 100000 in
set_option maxHeartbeats 4000000 in
theorem s_X9_undo {z zR : q_Z} {rv : Int32} (h : F_X9_undo z = some (rv, zR)) : q_Ca 86 [.ref 1] (q_K0, z.1, z.2, q_R0) (some (.int rv)) (q_K0, zR.1, zR.2, q_R0) := by
  refine q_Ca_of (by decide) (Nat.le_of_ble_eq_true rfl) ?_
  show q_Ex none 86 0 [(0, .ref 1)] [] (q_K0, z.1, z.2, q_R0) _ _
  unfold F_X9_undo at h
  refine q_blk2 (pc2 := 4) (ls2 := [(0, .ref 1)]) (st2 := [.ref 17]) (h2 := (q_K0, z.1, z.2, q_R0)) [(.aload_n 0, 0, 0, 0, 0, 0), (.getfield 31, 0, 8, 3, 0, 0)] (by decide +kernel) rfl rfl ⟨trivial, rfl, trivial⟩ ?_
  obtain ⟨⟨r1, z2⟩, hc3, h⟩ := Option.bind_eq_some_iff.mp h
  dsimp only at h
  refine q_cV1 (idx := 272) (v := .int r1) (h1 := (q_K0, z2.1, z2.2, q_R0)) [.ref 17] 47 17 6 [] [] rfl (by decide +kernel) (by decide +kernel) rfl (Nat.le_of_ble_eq_true rfl) rfl (by decide) (by decide +kernel) (by decide +kernel) (s_X6_takeBack hc3) ?_
  refine q_if_eq (off := 7) (tgt := 14) (by decide +kernel) (by decide) (fun c7_1 => ?_) (fun c7_1 => ?_)
  · rw [if_pos c7_1] at h
    refine q_blk2 (pc2 := 15) (ls2 := [(0, .ref 1)]) (st2 := [.int 0]) (h2 := (q_K0, z2.1, z2.2, q_R0)) [(.iconst 0, 0, 0, 0, 0, 0)] (by decide +kernel) rfl rfl ⟨trivial, trivial⟩ ?_
    cases h
    exact q_iret .int rfl rfl (by decide +kernel)
  · rw [if_neg c7_1] at h
    refine q_blk2 (pc2 := 11) (ls2 := [(0, .ref 1)]) (st2 := [.int 1]) (h2 := (q_K0, z2.1, z2.2, q_R0)) [(.iconst 1, 0, 0, 0, 1, 0)] (by decide +kernel) rfl rfl ⟨trivial, trivial⟩ ?_
    refine q_goto (off := 4) (tgt := 15) (by decide +kernel) (by decide) ?_
    cases h
    exact q_iret .int rfl rfl (by decide +kernel)
/-- RootForms.size(I)I -/
def F_X9_size (z : q_Z) (l1 : Int32) : Option (Int32 × q_Z) :=
  if l1 = (0 : Int32) then
    some (z.1 17 3, z)
  else
    if l1 = (1 : Int32) then
      some (z.1 122 2, z)
    else
      if l1 = (2 : Int32) then
        some (z.1 17 4, z)
      else
        if l1 = (3 : Int32) then
          some (z.1 4 0, z)
        else
          some ((-2147483648), z)
set_option maxRecDepth 100000 in
set_option maxHeartbeats 4000000 in
theorem s_X9_size {z zR : q_Z} {l1 : Int32} {rv : Int32} (h : F_X9_size z l1 = some (rv, zR)) : q_Ca 87 [.ref 1, .int l1] (q_K0, z.1, z.2, q_R0) (some (.int rv)) (q_K0, zR.1, zR.2, q_R0) := by
  refine q_Ca_of (by decide) (Nat.le_of_ble_eq_true rfl) ?_
  show q_Ex none 87 0 [(0, .ref 1), (1, .int l1)] [] (q_K0, z.1, z.2, q_R0) _ _
  unfold F_X9_size at h
  refine q_blk2 (pc2 := 1) (ls2 := [(0, .ref 1), (1, .int l1)]) (st2 := [.int l1]) (h2 := (q_K0, z.1, z.2, q_R0)) [(.iload_n 1, 0, 0, 0, 0, 0)] (by decide +kernel) rfl rfl ⟨trivial, trivial⟩ ?_
  by_cases cw1 : l1 = (0 : Int32)
  · rw [if_pos cw1] at h
    refine q_tabI (dflt := 63) (lo := 0) (hi := 3) (offs := #[31, 39, 47, 55]) (len := 31) (off := 31) (tgt := 32) (by decide +kernel) (by rw [cw1]; decide) (by rw [cw1]; decide) (by rw [cw1]; rfl) (by decide) ?_
    refine q_blk2 (pc2 := 39) (ls2 := [(0, .ref 1), (1, .int l1)]) (st2 := [.int (z.1 17 3)]) (h2 := (q_K0, z.1, z.2, q_R0)) [(.aload_n 0, 0, 0, 0, 0, 0), (.getfield 31, 0, 8, 3, 0, 0), (.getfield 276, 0, 6, 3, 0, 0)] (by decide +kernel) rfl rfl ⟨trivial, rfl, rfl, trivial⟩ ?_
    cases h
    exact q_iret .int rfl rfl (by decide +kernel)
  rw [if_neg cw1] at h
  by_cases cw2 : l1 = (1 : Int32)
  · rw [if_pos cw2] at h
    refine q_tabI (dflt := 63) (lo := 0) (hi := 3) (offs := #[31, 39, 47, 55]) (len := 31) (off := 39) (tgt := 40) (by decide +kernel) (by rw [cw2]; decide) (by rw [cw2]; decide) (by rw [cw2]; rfl) (by decide) ?_
    refine q_blk2 (pc2 := 47) (ls2 := [(0, .ref 1), (1, .int l1)]) (st2 := [.int (z.1 122 2)]) (h2 := (q_K0, z.1, z.2, q_R0)) [(.aload_n 0, 0, 0, 0, 0, 0), (.getfield 45, 0, 8, 5, 0, 0), (.getfield 260, 0, 4, 2, 0, 0)] (by decide +kernel) rfl rfl ⟨trivial, rfl, rfl, trivial⟩ ?_
    cases h
    exact q_iret .int rfl rfl (by decide +kernel)
  rw [if_neg cw2] at h
  by_cases cw3 : l1 = (2 : Int32)
  · rw [if_pos cw3] at h
    refine q_tabI (dflt := 63) (lo := 0) (hi := 3) (offs := #[31, 39, 47, 55]) (len := 31) (off := 47) (tgt := 48) (by decide +kernel) (by rw [cw3]; decide) (by rw [cw3]; decide) (by rw [cw3]; rfl) (by decide) ?_
    refine q_blk2 (pc2 := 55) (ls2 := [(0, .ref 1), (1, .int l1)]) (st2 := [.int (z.1 17 4)]) (h2 := (q_K0, z.1, z.2, q_R0)) [(.aload_n 0, 0, 0, 0, 0, 0), (.getfield 31, 0, 8, 3, 0, 0), (.getfield 277, 0, 6, 4, 0, 0)] (by decide +kernel) rfl rfl ⟨trivial, rfl, rfl, trivial⟩ ?_
    cases h
    exact q_iret .int rfl rfl (by decide +kernel)
  rw [if_neg cw3] at h
  by_cases cw4 : l1 = (3 : Int32)
  · rw [if_pos cw4] at h
    refine q_tabI (dflt := 63) (lo := 0) (hi := 3) (offs := #[31, 39, 47, 55]) (len := 31) (off := 55) (tgt := 56) (by decide +kernel) (by rw [cw4]; decide) (by rw [cw4]; decide) (by rw [cw4]; rfl) (by decide) ?_
    refine q_blk2 (pc2 := 63) (ls2 := [(0, .ref 1), (1, .int l1)]) (st2 := [.int (z.1 4 0)]) (h2 := (q_K0, z.1, z.2, q_R0)) [(.aload_n 0, 0, 0, 0, 0, 0), (.getfield 27, 0, 8, 2, 0, 0), (.getfield 151, 0, 2, 0, 0, 0)] (by decide +kernel) rfl rfl ⟨trivial, rfl, rfl, trivial⟩ ?_
    cases h
    exact q_iret .int rfl rfl (by decide +kernel)
  rw [if_neg cw4] at h
  have e_cw1 : Int32.toInt l1 ≠ 0 := q_neI cw1
  have e_cw2 : Int32.toInt l1 ≠ 1 := q_neI cw2
  have e_cw3 : Int32.toInt l1 ≠ 2 := q_neI cw3
  have e_cw4 : Int32.toInt l1 ≠ 3 := q_neI cw4
  refine q_tabO (dflt := 63) (lo := 0) (hi := 3) (offs := #[31, 39, 47, 55]) (len := 31) (tgt := 64) (by decide +kernel) (by omega) (by decide) ?_
  refine q_blk2 (pc2 := 67) (ls2 := [(0, .ref 1), (1, .int l1)]) (st2 := [.int (-2147483648)]) (h2 := (q_K0, z.1, z.2, q_R0)) [(.ldc_w 265, 0, 0, 0, (-2147483648), 0)] (by decide +kernel) rfl rfl ⟨trivial, trivial⟩ ?_
  cases h
  exact q_iret .int rfl rfl (by decide +kernel)
/-- RootForms.trouble()I -/
def F_X9_trouble (z : q_Z) : Option (Int32 × q_Z) :=
  some (z.1 1 9, z)
set_option maxRecDepth 100000 in
set_option maxHeartbeats 4000000 in
theorem s_X9_trouble {z zR : q_Z} {rv : Int32} (h : F_X9_trouble z = some (rv, zR)) : q_Ca 88 [.ref 1] (q_K0, z.1, z.2, q_R0) (some (.int rv)) (q_K0, zR.1, zR.2, q_R0) := by
  refine q_Ca_of (by decide) (Nat.le_of_ble_eq_true rfl) ?_
  show q_Ex none 88 0 [(0, .ref 1)] [] (q_K0, z.1, z.2, q_R0) _ _
  unfold F_X9_trouble at h
  refine q_blk2 (pc2 := 4) (ls2 := [(0, .ref 1)]) (st2 := [.int (z.1 1 9)]) (h2 := (q_K0, z.1, z.2, q_R0)) [(.aload_n 0, 0, 0, 0, 0, 0), (.getfield 66, 0, 8, 9, 0, 0)] (by decide +kernel) rfl rfl ⟨trivial, rfl, trivial⟩ ?_
  cases h
  exact q_iret .int rfl rfl (by decide +kernel)
