/-! pure functions of the methods, and that the methods do what they say (written by wip/whole/dec.py) -/
/-- RootForms$Pairs.clear()V -/
def F_X4_clear (z : q_Z) : Option (Unit × q_Z) :=
  some ((), (q_u2 z.1 122 2 0, z.2))
set_option maxRecDepth 100000 in
set_option maxHeartbeats 4000000 in
theorem s_X4_clear {z zR : q_Z} {rv : Unit} (h : F_X4_clear z = some (rv, zR)) : q_Ca 33 [.ref 122] (q_K0, z.1, z.2, q_R0) none (q_K0, zR.1, zR.2, q_R0) := by
  refine q_Ca_of (by decide) (Nat.le_of_ble_eq_true rfl) ?_
  show q_Ex none 33 0 [(0, .ref 122)] [] (q_K0, z.1, z.2, q_R0) _ _
  unfold F_X4_clear at h
  refine q_blk2 (pc2 := 5) (ls2 := [(0, .ref 122)]) (st2 := []) (h2 := (q_K0, q_u2 z.1 122 2 0, z.2, q_R0)) [(.aload_n 0, 0, 0, 0, 0, 0), (.iconst 0, 0, 0, 0, 0, 0), (.putfield 18, 0, 4, 2, 0, 0)] (by decide +kernel) rfl rfl ⟨trivial, trivial, ⟨rfl, rfl, rfl⟩, trivial⟩ ?_
  cases h
  exact q_vret rfl (by decide +kernel)
def T_X4_isAhead_11 (z : q_Z) : Option (Int32 × q_Z) :=
  some (0, z)
set_option maxRecDepth 100000 in
set_option maxHeartbeats 4000000 in
theorem t_X4_isAhead_11 {z zR : q_Z} {rv : Int32} (h : T_X4_isAhead_11 z = some (rv, zR)) : q_Ex none 35 11 [] [] (q_K0, z.1, z.2, q_R0) (some (.int rv)) (q_K0, zR.1, zR.2, q_R0) := by
  unfold T_X4_isAhead_11 at h
  refine q_blk2 (pc2 := 12) (ls2 := []) (st2 := [.int 0]) (h2 := (q_K0, z.1, z.2, q_R0)) [(.iconst 0, 0, 0, 0, 0, 0)] (by decide +kernel) rfl rfl ⟨trivial, trivial⟩ ?_
  cases h
  exact q_iret .boolean rfl rfl (by decide +kernel)
def T_X4_isAhead_43 (z : q_Z) : Option (Int32 × q_Z) :=
  some (1, z)
set_option maxRecDepth 100000 in
set_option maxHeartbeats 4000000 in
theorem t_X4_isAhead_43 {z zR : q_Z} {rv : Int32} (h : T_X4_isAhead_43 z = some (rv, zR)) : q_Ex none 35 43 [] [] (q_K0, z.1, z.2, q_R0) (some (.int rv)) (q_K0, zR.1, zR.2, q_R0) := by
  unfold T_X4_isAhead_43 at h
  refine q_blk2 (pc2 := 44) (ls2 := []) (st2 := [.int 1]) (h2 := (q_K0, z.1, z.2, q_R0)) [(.iconst 1, 0, 0, 0, 1, 0)] (by decide +kernel) rfl rfl ⟨trivial, trivial⟩ ?_
  refine q_goto (off := 4) (tgt := 48) (by decide +kernel) (by decide) ?_
  cases h
  exact q_iret .boolean rfl rfl (by decide +kernel)
def T_X4_isAhead_47 (z : q_Z) : Option (Int32 × q_Z) :=
  some (0, z)
set_option maxRecDepth 100000 in
set_option maxHeartbeats 4000000 in
theorem t_X4_isAhead_47 {z zR : q_Z} {rv : Int32} (h : T_X4_isAhead_47 z = some (rv, zR)) : q_Ex none 35 47 [] [] (q_K0, z.1, z.2, q_R0) (some (.int rv)) (q_K0, zR.1, zR.2, q_R0) := by
  unfold T_X4_isAhead_47 at h
  refine q_blk2 (pc2 := 48) (ls2 := []) (st2 := [.int 0]) (h2 := (q_K0, z.1, z.2, q_R0)) [(.iconst 0, 0, 0, 0, 0, 0)] (by decide +kernel) rfl rfl ⟨trivial, trivial⟩ ?_
  cases h
  exact q_iret .boolean rfl rfl (by decide +kernel)
/-- RootForms$Pairs.isAhead(III)Z -/
def F_X4_isAhead (z : q_Z) (l1 : Int32) (l2 : Int32) (l3 : Int32) : Option (Int32 × q_Z) :=
  if l3 < (0 : Int32) then
    T_X4_isAhead_11 z
  else
    if l3 < (200 : Int32) then
      if 0 ≤ Int32.toInt l3 ∧ Int32.toInt l3 < 200 then
        if l1 < (z.1 123 (Int32.toNatClampNeg l3)) then
          T_X4_isAhead_43 z
        else
          if 0 ≤ Int32.toInt l3 ∧ Int32.toInt l3 < 200 then
            if l1 = (z.1 123 (Int32.toNatClampNeg l3)) then
              if 0 ≤ Int32.toInt l3 ∧ Int32.toInt l3 < 200 then
                if (z.1 124 (Int32.toNatClampNeg l3)) ≤ l2 then
                  T_X4_isAhead_47 z
                else
                  T_X4_isAhead_43 z
              else none
            else
              T_X4_isAhead_47 z
          else none
      else none
    else
      T_X4_isAhead_11 z
set_option maxRecDepth 100000 in
set_option maxHeartbeats 4000000 in
theorem s_X4_isAhead {z zR : q_Z} {l1 : Int32} {l2 : Int32} {l3 : Int32} {rv : Int32} (h : F_X4_isAhead z l1 l2 l3 = some (rv, zR)) : q_Ca 35 [.ref 122, .int l1, .int l2, .int l3] (q_K0, z.1, z.2, q_R0) (some (.int rv)) (q_K0, zR.1, zR.2, q_R0) := by
  refine q_Ca_of (by decide) (Nat.le_of_ble_eq_true rfl) ?_
  show q_Ex none 35 0 [(0, .ref 122), (1, .int l1), (2, .int l2), (3, .int l3)] [] (q_K0, z.1, z.2, q_R0) _ _
  unfold F_X4_isAhead at h
  refine q_blk2 (pc2 := 1) (ls2 := [(0, .ref 122), (1, .int l1), (2, .int l2), (3, .int l3)]) (st2 := [.int l3]) (h2 := (q_K0, z.1, z.2, q_R0)) [(.iload_n 3, 0, 0, 0, 0, 0)] (by decide +kernel) rfl rfl ⟨trivial, trivial⟩ ?_
  refine q_if_lt (off := 10) (tgt := 11) (by decide +kernel) (by decide) (fun c1_1 => ?_) (fun c1_1 => ?_)
  · rw [if_pos c1_1] at h
    refine q_pick [] rfl ?_
    exact t_X4_isAhead_11 h
  · rw [if_neg c1_1] at h
    refine q_blk2 (pc2 := 8) (ls2 := [(0, .ref 122), (1, .int l1), (2, .int l2), (3, .int l3)]) (st2 := [.int 200, .int l3]) (h2 := (q_K0, z.1, z.2, q_R0)) [(.iload_n 3, 0, 0, 0, 0, 0), (.sipush 200, 0, 0, 0, 200, 0)] (by decide +kernel) rfl rfl ⟨trivial, trivial, trivial⟩ ?_
    refine q_ic_lt (off := 5) (tgt := 13) (by decide +kernel) (by decide) (fun c8_2 => ?_) (fun c8_2 => ?_)
    · rw [if_pos c8_2] at h
      have b1 : 0 ≤ Int32.toInt l3 ∧ Int32.toInt l3 < 200 := by
        by_cases q : 0 ≤ Int32.toInt l3 ∧ Int32.toInt l3 < 200
        · exact q
        · rw [if_neg q] at h; cases h
      rw [if_pos b1] at h
      refine q_blk2 (pc2 := 20) (ls2 := [(0, .ref 122), (1, .int l1), (2, .int l2), (3, .int l3)]) (st2 := [.int (z.1 123 (Int32.toNatClampNeg l3)), .int l1]) (h2 := (q_K0, z.1, z.2, q_R0)) [(.iload_n 1, 0, 0, 0, 0, 0), (.aload_n 0, 0, 0, 0, 0, 0), (.getfield 9, 0, 4, 0, 0, 0), (.iload_n 3, 0, 0, 0, 0, 0), (.iaload, 0, 0, 0, 0, 0)] (by decide +kernel) rfl rfl ⟨trivial, trivial, rfl, trivial, ⟨_, rfl, vp_in_iff.mpr b1⟩, trivial⟩ ?_
      refine q_ic_lt (off := 23) (tgt := 43) (by decide +kernel) (by decide) (fun c20_3 => ?_) (fun c20_3 => ?_)
      · rw [if_pos c20_3] at h
        refine q_pick [] rfl ?_
        exact t_X4_isAhead_43 h
      · rw [if_neg c20_3] at h
        have b2 : 0 ≤ Int32.toInt l3 ∧ Int32.toInt l3 < 200 := by
          by_cases q : 0 ≤ Int32.toInt l3 ∧ Int32.toInt l3 < 200
          · exact q
          · rw [if_neg q] at h; cases h
        rw [if_pos b2] at h
        refine q_blk2 (pc2 := 30) (ls2 := [(0, .ref 122), (1, .int l1), (2, .int l2), (3, .int l3)]) (st2 := [.int (z.1 123 (Int32.toNatClampNeg l3)), .int l1]) (h2 := (q_K0, z.1, z.2, q_R0)) [(.iload_n 1, 0, 0, 0, 0, 0), (.aload_n 0, 0, 0, 0, 0, 0), (.getfield 9, 0, 4, 0, 0, 0), (.iload_n 3, 0, 0, 0, 0, 0), (.iaload, 0, 0, 0, 0, 0)] (by decide +kernel) rfl rfl ⟨trivial, trivial, rfl, trivial, ⟨_, rfl, vp_in_iff.mpr b2⟩, trivial⟩ ?_
        refine q_ic_ne (off := 17) (tgt := 47) (by decide +kernel) (by decide) (fun c30_4 => ?_) (fun c30_4 => ?_)
        · rw [if_neg c30_4] at h
          refine q_pick [] rfl ?_
          exact t_X4_isAhead_47 h
        · rw [if_pos c30_4] at h
          have b3 : 0 ≤ Int32.toInt l3 ∧ Int32.toInt l3 < 200 := by
            by_cases q : 0 ≤ Int32.toInt l3 ∧ Int32.toInt l3 < 200
            · exact q
            · rw [if_neg q] at h; cases h
          rw [if_pos b3] at h
          refine q_blk2 (pc2 := 40) (ls2 := [(0, .ref 122), (1, .int l1), (2, .int l2), (3, .int l3)]) (st2 := [.int (z.1 124 (Int32.toNatClampNeg l3)), .int l2]) (h2 := (q_K0, z.1, z.2, q_R0)) [(.iload_n 2, 0, 0, 0, 0, 0), (.aload_n 0, 0, 0, 0, 0, 0), (.getfield 15, 0, 4, 1, 0, 0), (.iload_n 3, 0, 0, 0, 0, 0), (.iaload, 0, 0, 0, 0, 0)] (by decide +kernel) rfl rfl ⟨trivial, trivial, rfl, trivial, ⟨_, rfl, vp_in_iff.mpr b3⟩, trivial⟩ ?_
          refine q_ic_ge (off := 7) (tgt := 47) (by decide +kernel) (by decide) (fun c40_5 => ?_) (fun c40_5 => ?_)
          · rw [if_pos c40_5] at h
            refine q_pick [] rfl ?_
            exact t_X4_isAhead_47 h
          · rw [if_neg c40_5] at h
            refine q_pick [] rfl ?_
            exact t_X4_isAhead_43 h
    · rw [if_neg c8_2] at h
      refine q_pick [] rfl ?_
      exact t_X4_isAhead_11 h
def T_X4_insert_62 (z : q_Z) (l1 : Int32) (l2 : Int32) (l3 : Int32) : Option ((Int32 × Int32 × Int32 × q_Z) × Nat) :=
  some ((l1, l2, l3 + (-1), z), 0)
set_option maxRecDepth 100000 in
set_option maxHeartbeats 4000000 in
theorem t_X4_insert_62 {z : q_Z} {l1 : Int32} {l2 : Int32} {l3 : Int32} {s2 : Int32 × Int32 × Int32 × q_Z} {t : Nat} {r : Option Value} {h2 : q_H} (h : T_X4_insert_62 z l1 l2 l3 = some (s2, t)) (k0 : t = 0 → q_Ex none 34 11 [(0, .ref 122), (1, .int s2.1), (2, .int s2.2.1), (3, .int s2.2.2.1)] [] (q_K0, s2.2.2.2.1, s2.2.2.2.2, q_R0) r h2) (k1 : t = 1 → q_Ex none 34 68 [(0, .ref 122), (1, .int s2.1), (2, .int s2.2.1), (3, .int s2.2.2.1)] [] (q_K0, s2.2.2.2.1, s2.2.2.2.2, q_R0) r h2) : q_Ex none 34 62 [(0, .ref 122), (1, .int l1), (2, .int l2), (3, .int l3)] [] (q_K0, z.1, z.2, q_R0) r h2 := by
  unfold T_X4_insert_62 at h
  refine q_blk2 (pc2 := 65) (ls2 := [(3, .int (l3 + (-1))), (0, .ref 122), (1, .int l1), (2, .int l2)]) (st2 := []) (h2 := (q_K0, z.1, z.2, q_R0)) [(.iinc 3 (-1), 0, 0, 0, (-1), 0)] (by decide +kernel) rfl rfl ⟨trivial, trivial⟩ ?_
  refine q_goto (off := -54) (tgt := 11) (by decide +kernel) (by decide) ?_
  cases h
  refine q_pick [1, 2, 3, 0] rfl ?_
  exact k0 rfl
def B_X4_insert_11 : Int32 × Int32 × Int32 × q_Z → Option ((Int32 × Int32 × Int32 × q_Z) × Nat) := fun (l1, l2, l3, z) =>
  if l3 ≤ (0 : Int32) then
    some ((l1, l2, l3, z), 1)
  else
    (F_X4_isAhead z l1 l2 (l3 - 1)).bind fun (r3, z4) =>
      if r3 = (0 : Int32) then
        some ((l1, l2, l3, z4), 1)
      else
        if (200 : Int32) ≤ l3 then
          T_X4_insert_62 z4 l1 l2 l3
        else
          if 0 ≤ Int32.toInt (l3 - 1) ∧ Int32.toInt (l3 - 1) < 200 then
            if 0 ≤ Int32.toInt l3 ∧ Int32.toInt l3 < 200 then
              T_X4_insert_62 (q_u2 (q_u2 z4.1 123 (Int32.toNatClampNeg l3) (z4.1 123 (Int32.toNatClampNeg (l3 - 1)))) 124 (Int32.toNatClampNeg l3) (z4.1 124 (Int32.toNatClampNeg (l3 - 1))), z4.2) l1 l2 l3
            else none
          else none
set_option maxRecDepth 100000 in
set_option maxHeartbeats 4000000 in
theorem b_X4_insert_11 {s s2 : Int32 × Int32 × Int32 × q_Z} {t : Nat} {r : Option Value} {h2 : q_H} (h : B_X4_insert_11 s = some (s2, t)) (k0 : t = 0 → q_Ex none 34 11 [(0, .ref 122), (1, .int s2.1), (2, .int s2.2.1), (3, .int s2.2.2.1)] [] (q_K0, s2.2.2.2.1, s2.2.2.2.2, q_R0) r h2) (k1 : t = 1 → q_Ex none 34 68 [(0, .ref 122), (1, .int s2.1), (2, .int s2.2.1), (3, .int s2.2.2.1)] [] (q_K0, s2.2.2.2.1, s2.2.2.2.2, q_R0) r h2) : q_Ex none 34 11 [(0, .ref 122), (1, .int s.1), (2, .int s.2.1), (3, .int s.2.2.1)] [] (q_K0, s.2.2.2.1, s.2.2.2.2, q_R0) r h2 := by
  unfold B_X4_insert_11 at h
  obtain ⟨l1, l2, l3, z⟩ := s
  dsimp only at h
  show q_Ex none 34 11 [(0, .ref 122), (1, .int l1), (2, .int l2), (3, .int l3)] [] (q_K0, z.1, z.2, q_R0) r h2
  refine q_blk2 (pc2 := 12) (ls2 := [(0, .ref 122), (1, .int l1), (2, .int l2), (3, .int l3)]) (st2 := [.int l3]) (h2 := (q_K0, z.1, z.2, q_R0)) [(.iload_n 3, 0, 0, 0, 0, 0)] (by decide +kernel) rfl rfl ⟨trivial, trivial⟩ ?_
  refine q_if_le (off := 56) (tgt := 68) (by decide +kernel) (by decide) (fun c12_1 => ?_) (fun c12_1 => ?_)
  · rw [if_pos c12_1] at h
    cases h
    refine q_pick [0, 1, 2, 3] rfl ?_
    exact k1 rfl
  · rw [if_neg c12_1] at h
    refine q_blk2 (pc2 := 21) (ls2 := [(0, .ref 122), (1, .int l1), (2, .int l2), (3, .int l3)]) (st2 := [.int (l3 - 1), .int l2, .int l1, .ref 122]) (h2 := (q_K0, z.1, z.2, q_R0)) [(.aload_n 0, 0, 0, 0, 0, 0), (.iload_n 1, 0, 0, 0, 0, 0), (.iload_n 2, 0, 0, 0, 0, 0), (.iload_n 3, 0, 0, 0, 0, 0), (.iconst 1, 0, 0, 0, 1, 0), (.isub, 0, 0, 0, 0, 0)] (by decide +kernel) rfl rfl ⟨trivial, trivial, trivial, trivial, trivial, trivial, trivial⟩ ?_
    obtain ⟨⟨r3, z4⟩, hc7, h⟩ := Option.bind_eq_some_iff.mp h
    dsimp only at h
    refine q_cV1 (idx := 28) (v := .int r3) (h1 := (q_K0, z4.1, z4.2, q_R0)) [.int (l3 - 1), .int l2, .int l1, .ref 122] 35 122 4 [.int l1, .int l2, .int (l3 - 1)] [] rfl (by decide +kernel) (by decide +kernel) rfl (Nat.le_of_ble_eq_true rfl) rfl (by decide) (by decide +kernel) (by decide +kernel) (s_X4_isAhead hc7) ?_
    refine q_if_eq (off := 44) (tgt := 68) (by decide +kernel) (by decide) (fun c24_2 => ?_) (fun c24_2 => ?_)
    · rw [if_pos c24_2] at h
      cases h
      refine q_pick [0, 1, 2, 3] rfl ?_
      exact k1 rfl
    · rw [if_neg c24_2] at h
      refine q_blk2 (pc2 := 31) (ls2 := [(0, .ref 122), (1, .int l1), (2, .int l2), (3, .int l3)]) (st2 := [.int 200, .int l3]) (h2 := (q_K0, z4.1, z4.2, q_R0)) [(.iload_n 3, 0, 0, 0, 0, 0), (.sipush 200, 0, 0, 0, 200, 0)] (by decide +kernel) rfl rfl ⟨trivial, trivial, trivial⟩ ?_
      refine q_ic_ge (off := 31) (tgt := 62) (by decide +kernel) (by decide) (fun c31_3 => ?_) (fun c31_3 => ?_)
      · rw [if_pos c31_3] at h
        refine q_pick [0, 1, 2, 3] rfl ?_
        exact t_X4_insert_62 h k0 k1
      · rw [if_neg c31_3] at h
        have b5 : 0 ≤ Int32.toInt (l3 - 1) ∧ Int32.toInt (l3 - 1) < 200 := by
          by_cases q : 0 ≤ Int32.toInt (l3 - 1) ∧ Int32.toInt (l3 - 1) < 200
          · exact q
          · rw [if_neg q] at h; cases h
        rw [if_pos b5] at h
        have b6 : 0 ≤ Int32.toInt l3 ∧ Int32.toInt l3 < 200 := by
          by_cases q : 0 ≤ Int32.toInt l3 ∧ Int32.toInt l3 < 200
          · exact q
          · rw [if_neg q] at h; cases h
        rw [if_pos b6] at h
        refine q_blk2 (pc2 := 62) (ls2 := [(0, .ref 122), (1, .int l1), (2, .int l2), (3, .int l3)]) (st2 := []) (h2 := (q_K0, q_u2 (q_u2 z4.1 123 (Int32.toNatClampNeg l3) (z4.1 123 (Int32.toNatClampNeg (l3 - 1)))) 124 (Int32.toNatClampNeg l3) (z4.1 124 (Int32.toNatClampNeg (l3 - 1))), z4.2, q_R0)) [(.aload_n 0, 0, 0, 0, 0, 0), (.getfield 9, 0, 4, 0, 0, 0), (.iload_n 3, 0, 0, 0, 0, 0), (.aload_n 0, 0, 0, 0, 0, 0), (.getfield 9, 0, 4, 0, 0, 0), (.iload_n 3, 0, 0, 0, 0, 0), (.iconst 1, 0, 0, 0, 1, 0), (.isub, 0, 0, 0, 0, 0), (.iaload, 0, 0, 0, 0, 0), (.iastore, 0, 0, 0, 0, 0), (.aload_n 0, 0, 0, 0, 0, 0), (.getfield 15, 0, 4, 1, 0, 0), (.iload_n 3, 0, 0, 0, 0, 0), (.aload_n 0, 0, 0, 0, 0, 0), (.getfield 15, 0, 4, 1, 0, 0), (.iload_n 3, 0, 0, 0, 0, 0), (.iconst 1, 0, 0, 0, 1, 0), (.isub, 0, 0, 0, 0, 0), (.iaload, 0, 0, 0, 0, 0), (.iastore, 0, 0, 0, 0, 0)] (by decide +kernel) rfl rfl ⟨trivial, rfl, trivial, trivial, rfl, trivial, trivial, trivial, ⟨_, rfl, vp_in_iff.mpr b5⟩, ⟨_, rfl, vp_in_iff.mpr b6⟩, trivial, rfl, trivial, trivial, rfl, trivial, trivial, trivial, ⟨_, rfl, vp_in_iff.mpr b5⟩, ⟨_, rfl, vp_in_iff.mpr b6⟩, trivial⟩ ?_
        refine q_pick [0, 1, 2, 3] rfl ?_
        exact t_X4_insert_62 h k0 k1
def T_X4_insert_93 (z : q_Z) : Option (Unit × q_Z) :=
  (F_J9_min_7cf53 z ((z.1 122 2) + 1) 200).bind fun (r12, z13) =>
    some ((), (q_u2 z13.1 122 2 r12, z13.2))
set_option maxRecDepth 100000 in
set_option maxHeartbeats 4000000 in
theorem t_X4_insert_93 {z zR : q_Z} {rv : Unit} (h : T_X4_insert_93 z = some (rv, zR)) : q_Ex none 34 93 [(0, .ref 122)] [] (q_K0, z.1, z.2, q_R0) none (q_K0, zR.1, zR.2, q_R0) := by
  unfold T_X4_insert_93 at h
  refine q_blk2 (pc2 := 103) (ls2 := [(0, .ref 122)]) (st2 := [.int 200, .int ((z.1 122 2) + 1), .ref 122]) (h2 := (q_K0, z.1, z.2, q_R0)) [(.aload_n 0, 0, 0, 0, 0, 0), (.aload_n 0, 0, 0, 0, 0, 0), (.getfield 18, 0, 4, 2, 0, 0), (.iconst 1, 0, 0, 0, 1, 0), (.iadd, 0, 0, 0, 0, 0), (.sipush 200, 0, 0, 0, 200, 0)] (by decide +kernel) rfl rfl ⟨trivial, trivial, rfl, trivial, trivial, trivial, trivial⟩ ?_
  obtain ⟨⟨r12, z13⟩, hc14, h⟩ := Option.bind_eq_some_iff.mp h
  dsimp only at h
  refine q_cS1 (idx := 22) (v := .int r12) (h1 := (q_K0, z13.1, z13.2, q_R0)) [.int 200, .int ((z.1 122 2) + 1), .ref 122] 162 [.int ((z.1 122 2) + 1), .int 200] [.ref 122] rfl (by decide +kernel) (by decide +kernel) rfl (Nat.le_of_ble_eq_true rfl) (by decide +kernel) (s_J9_min_7cf53 hc14) ?_
  refine q_blk2 (pc2 := 109) (ls2 := [(0, .ref 122)]) (st2 := []) (h2 := (q_K0, q_u2 z13.1 122 2 r12, z13.2, q_R0)) [(.putfield 18, 0, 4, 2, 0, 0)] (by decide +kernel) rfl rfl ⟨⟨rfl, rfl, rfl⟩, trivial⟩ ?_
  cases h
  exact q_vret rfl (by decide +kernel)
def T_X4_insert_68 (z : q_Z) (l1 : Int32) (l2 : Int32) (l3 : Int32) : Option (Unit × q_Z) :=
  if l3 < (0 : Int32) then
    T_X4_insert_93 z
  else
    if (200 : Int32) ≤ l3 then
      T_X4_insert_93 z
    else
      if 0 ≤ Int32.toInt l3 ∧ Int32.toInt l3 < 200 then
        T_X4_insert_93 (q_u2 (q_u2 z.1 123 (Int32.toNatClampNeg l3) l1) 124 (Int32.toNatClampNeg l3) l2, z.2)
      else none
set_option maxRecDepth 100000 in
set_option maxHeartbeats 4000000 in
theorem t_X4_insert_68 {z zR : q_Z} {l1 : Int32} {l2 : Int32} {l3 : Int32} {rv : Unit} (h : T_X4_insert_68 z l1 l2 l3 = some (rv, zR)) : q_Ex none 34 68 [(0, .ref 122), (1, .int l1), (2, .int l2), (3, .int l3)] [] (q_K0, z.1, z.2, q_R0) none (q_K0, zR.1, zR.2, q_R0) := by
  unfold T_X4_insert_68 at h
  refine q_blk2 (pc2 := 69) (ls2 := [(0, .ref 122), (1, .int l1), (2, .int l2), (3, .int l3)]) (st2 := [.int l3]) (h2 := (q_K0, z.1, z.2, q_R0)) [(.iload_n 3, 0, 0, 0, 0, 0)] (by decide +kernel) rfl rfl ⟨trivial, trivial⟩ ?_
  refine q_if_lt (off := 24) (tgt := 93) (by decide +kernel) (by decide) (fun c69_1 => ?_) (fun c69_1 => ?_)
  · rw [if_pos c69_1] at h
    refine q_pick [0] rfl ?_
    exact t_X4_insert_93 h
  · rw [if_neg c69_1] at h
    refine q_blk2 (pc2 := 76) (ls2 := [(0, .ref 122), (1, .int l1), (2, .int l2), (3, .int l3)]) (st2 := [.int 200, .int l3]) (h2 := (q_K0, z.1, z.2, q_R0)) [(.iload_n 3, 0, 0, 0, 0, 0), (.sipush 200, 0, 0, 0, 200, 0)] (by decide +kernel) rfl rfl ⟨trivial, trivial, trivial⟩ ?_
    refine q_ic_ge (off := 17) (tgt := 93) (by decide +kernel) (by decide) (fun c76_2 => ?_) (fun c76_2 => ?_)
    · rw [if_pos c76_2] at h
      refine q_pick [0] rfl ?_
      exact t_X4_insert_93 h
    · rw [if_neg c76_2] at h
      have b15 : 0 ≤ Int32.toInt l3 ∧ Int32.toInt l3 < 200 := by
        by_cases q : 0 ≤ Int32.toInt l3 ∧ Int32.toInt l3 < 200
        · exact q
        · rw [if_neg q] at h; cases h
      rw [if_pos b15] at h
      refine q_blk2 (pc2 := 93) (ls2 := [(0, .ref 122), (1, .int l1), (2, .int l2), (3, .int l3)]) (st2 := []) (h2 := (q_K0, q_u2 (q_u2 z.1 123 (Int32.toNatClampNeg l3) l1) 124 (Int32.toNatClampNeg l3) l2, z.2, q_R0)) [(.aload_n 0, 0, 0, 0, 0, 0), (.getfield 9, 0, 4, 0, 0, 0), (.iload_n 3, 0, 0, 0, 0, 0), (.iload_n 1, 0, 0, 0, 0, 0), (.iastore, 0, 0, 0, 0, 0), (.aload_n 0, 0, 0, 0, 0, 0), (.getfield 15, 0, 4, 1, 0, 0), (.iload_n 3, 0, 0, 0, 0, 0), (.iload_n 2, 0, 0, 0, 0, 0), (.iastore, 0, 0, 0, 0, 0)] (by decide +kernel) rfl rfl ⟨trivial, rfl, trivial, trivial, ⟨_, rfl, vp_in_iff.mpr b15⟩, trivial, rfl, trivial, trivial, ⟨_, rfl, vp_in_iff.mpr b15⟩, trivial⟩ ?_
      refine q_pick [0] rfl ?_
      exact t_X4_insert_93 h
/-- RootForms$Pairs.insert(II)V -/
def F_X4_insert (z : q_Z) (l1 : Int32) (l2 : Int32) : Option (Unit × q_Z) :=
  (F_J9_min_7cf53 z (z.1 122 2) 200).bind fun (r1, z2) =>
    (q_lp (B_X4_insert_11) q_fu (l1, l2, r1, z2)).bind fun ((w9, w10, w11, z8), tg) =>
      if tg = 0 then
        T_X4_insert_68 z8 w9 w10 w11
      else none
set_option maxRecDepth 100000 in
set_option maxHeartbeats 4000000 in
theorem s_X4_insert {z zR : q_Z} {l1 : Int32} {l2 : Int32} {rv : Unit} (h : F_X4_insert z l1 l2 = some (rv, zR)) : q_Ca 34 [.ref 122, .int l1, .int l2] (q_K0, z.1, z.2, q_R0) none (q_K0, zR.1, zR.2, q_R0) := by
  refine q_Ca_of (by decide) (Nat.le_of_ble_eq_true rfl) ?_
  show q_Ex none 34 0 [(0, .ref 122), (1, .int l1), (2, .int l2)] [] (q_K0, z.1, z.2, q_R0) _ _
  unfold F_X4_insert at h
  refine q_blk2 (pc2 := 7) (ls2 := [(0, .ref 122), (1, .int l1), (2, .int l2)]) (st2 := [.int 200, .int (z.1 122 2)]) (h2 := (q_K0, z.1, z.2, q_R0)) [(.aload_n 0, 0, 0, 0, 0, 0), (.getfield 18, 0, 4, 2, 0, 0), (.sipush 200, 0, 0, 0, 200, 0)] (by decide +kernel) rfl rfl ⟨trivial, rfl, trivial, trivial⟩ ?_
  obtain ⟨⟨r1, z2⟩, hc16, h⟩ := Option.bind_eq_some_iff.mp h
  dsimp only at h
  refine q_cS1 (idx := 22) (v := .int r1) (h1 := (q_K0, z2.1, z2.2, q_R0)) [.int 200, .int (z.1 122 2)] 162 [.int (z.1 122 2), .int 200] [] rfl (by decide +kernel) (by decide +kernel) rfl (Nat.le_of_ble_eq_true rfl) (by decide +kernel) (s_J9_min_7cf53 hc16) ?_
  refine q_blk2 (pc2 := 11) (ls2 := [(3, .int r1), (0, .ref 122), (1, .int l1), (2, .int l2)]) (st2 := []) (h2 := (q_K0, z2.1, z2.2, q_R0)) [(.istore_n 3, 0, 0, 0, 0, 0)] (by decide +kernel) rfl rfl ⟨trivial, trivial⟩ ?_
  obtain ⟨⟨⟨w9, w10, w11, z8⟩, tg18⟩, hl17, h⟩ := Option.bind_eq_some_iff.mp h
  dsimp only at h
  refine q_pick [1, 2, 3, 0] rfl ?_
  refine q_lp_ok (P := fun s => q_Ex _ 34 11 [(0, .ref 122), (1, .int s.1), (2, .int s.2.1), (3, .int s.2.2.1)] [] (q_K0, s.2.2.2.1, s.2.2.2.2, q_R0) _ _) (X := fun u s => (u = 0 → q_Ex _ 34 68 [(0, .ref 122), (1, .int s.1), (2, .int s.2.1), (3, .int s.2.2.1)] [] (q_K0, s.2.2.2.1, s.2.2.2.2, q_R0) _ _)) (fun s s2 t hh k0 kx => b_X4_insert_11 hh k0 (fun e => (kx 0 e) rfl)) hl17 ?_
  · intro e_tg18
    subst e_tg18
    rw [if_pos rfl] at h
    show q_Ex _ 34 68 [(0, .ref 122), (1, .int w9), (2, .int w10), (3, .int w11)] [] (q_K0, z8.1, z8.2, q_R0) _ _
    refine q_pick [0, 1, 2, 3] rfl ?_
    exact t_X4_insert_68 h
def T_X5_begin_45 (z : q_Z) (t0 : Int64) : Option (Unit × q_Z) :=
  some ((), (q_u2 z.1 125 9 0, q_u2 (q_u2 (q_u2 (q_u2 (q_u2 z.2 125 4 t0) 125 5 t0) 125 6 1) 125 7 1) 125 8 0))
set_option maxRecDepth 100000 in
set_option maxHeartbeats 4000000 in
theorem t_X5_begin_45 {z zR : q_Z} {t0 : Int64} {rv : Unit} (h : T_X5_begin_45 z t0 = some (rv, zR)) : q_Ex none 37 45 [(0, .ref 125)] [.long t0, .ref 125] (q_K0, z.1, z.2, q_R0) none (q_K0, zR.1, zR.2, q_R0) := by
  unfold T_X5_begin_45 at h
  refine q_blk2 (pc2 := 76) (ls2 := [(0, .ref 125)]) (st2 := []) (h2 := (q_K0, q_u2 z.1 125 9 0, q_u2 (q_u2 (q_u2 (q_u2 (q_u2 z.2 125 4 t0) 125 5 t0) 125 6 1) 125 7 1) 125 8 0, q_R0)) [(.putfield 30, 0, 5, 4, 0, 0), (.aload_n 0, 0, 0, 0, 0, 0), (.aload_n 0, 0, 0, 0, 0, 0), (.getfield 30, 0, 5, 4, 0, 0), (.putfield 33, 0, 5, 5, 0, 0), (.aload_n 0, 0, 0, 0, 0, 0), (.lconst 1, 0, 0, 0, 0, 1), (.putfield 36, 0, 5, 6, 0, 0), (.aload_n 0, 0, 0, 0, 0, 0), (.lconst 1, 0, 0, 0, 0, 1), (.putfield 39, 0, 5, 7, 0, 0), (.aload_n 0, 0, 0, 0, 0, 0), (.lconst 0, 0, 0, 0, 0, 0), (.putfield 42, 0, 5, 8, 0, 0), (.aload_n 0, 0, 0, 0, 0, 0), (.iconst 0, 0, 0, 0, 0, 0), (.putfield 45, 0, 5, 9, 0, 0)] (by decide +kernel) rfl rfl ⟨rfl, trivial, trivial, rfl, rfl, trivial, trivial, rfl, trivial, trivial, rfl, trivial, trivial, rfl, trivial, trivial, ⟨rfl, rfl, rfl⟩, trivial⟩ ?_
  cases h
  exact q_vret rfl (by decide +kernel)
/-- RootForms$Quotients.begin(JJJ)V -/
def F_X5_begin (z : q_Z) (l1 : Int64) (l3 : Int64) (l5 : Int64) : Option (Unit × q_Z) :=
  (F_X7_rootOf (z.1, q_u2 z.2 125 0 l1) l1).bind fun (r1, z2) =>
    if l5 ≤ (0 : Int64) then
      T_X5_begin_45 (z2.1, q_u2 (q_u2 (q_u2 z2.2 125 1 r1) 125 2 l3) 125 3 l5) 0
    else
      if ¬ l5 = (0 : Int64) then
        T_X5_begin_45 (z2.1, q_u2 (q_u2 (q_u2 z2.2 125 1 r1) 125 2 l3) 125 3 l5) ((r1 + l3) / l5)
      else none
set_option maxRecDepth 100000 in
set_option maxHeartbeats 4000000 in
theorem s_X5_begin {z zR : q_Z} {l1 : Int64} {l3 : Int64} {l5 : Int64} {rv : Unit} (h : F_X5_begin z l1 l3 l5 = some (rv, zR)) : q_Ca 37 [.ref 125, .long l1, .long l3, .long l5] (q_K0, z.1, z.2, q_R0) none (q_K0, zR.1, zR.2, q_R0) := by
  refine q_Ca_of (by decide) (Nat.le_of_ble_eq_true rfl) ?_
  show q_Ex none 37 0 [(0, .ref 125), (1, .long l1), (3, .long l3), (5, .long l5)] [] (q_K0, z.1, z.2, q_R0) _ _
  unfold F_X5_begin at h
  refine q_blk2 (pc2 := 7) (ls2 := [(0, .ref 125), (1, .long l1), (3, .long l3), (5, .long l5)]) (st2 := [.long l1, .ref 125]) (h2 := (q_K0, z.1, q_u2 z.2 125 0 l1, q_R0)) [(.aload_n 0, 0, 0, 0, 0, 0), (.lload_n 1, 0, 0, 0, 0, 0), (.putfield 9, 0, 5, 0, 0, 0), (.aload_n 0, 0, 0, 0, 0, 0), (.lload_n 1, 0, 0, 0, 0, 0)] (by decide +kernel) rfl rfl ⟨trivial, trivial, rfl, trivial, trivial, trivial⟩ ?_
  obtain ⟨⟨r1, z2⟩, hc4, h⟩ := Option.bind_eq_some_iff.mp h
  dsimp only at h
  refine q_cS1 (idx := 15) (v := .long r1) (h1 := (q_K0, z2.1, z2.2, q_R0)) [.long l1, .ref 125] 48 [.long l1] [.ref 125] rfl (by decide +kernel) (by decide +kernel) rfl (Nat.le_of_ble_eq_true rfl) (by decide +kernel) (s_X7_rootOf hc4) ?_
  refine q_blk2 (pc2 := 28) (ls2 := [(0, .ref 125), (1, .long l1), (3, .long l3), (5, .long l5)]) (st2 := [.long 0, .long l5, .ref 125]) (h2 := (q_K0, z2.1, q_u2 (q_u2 (q_u2 z2.2 125 1 r1) 125 2 l3) 125 3 l5, q_R0)) [(.putfield 21, 0, 5, 1, 0, 0), (.aload_n 0, 0, 0, 0, 0, 0), (.lload_n 3, 0, 0, 0, 0, 0), (.putfield 24, 0, 5, 2, 0, 0), (.aload_n 0, 0, 0, 0, 0, 0), (.lload 5, 0, 0, 0, 0, 0), (.putfield 27, 0, 5, 3, 0, 0), (.aload_n 0, 0, 0, 0, 0, 0), (.lload 5, 0, 0, 0, 0, 0), (.lconst 0, 0, 0, 0, 0, 0)] (by decide +kernel) rfl rfl ⟨rfl, trivial, trivial, rfl, trivial, trivial, rfl, trivial, trivial, trivial, trivial⟩ ?_
  refine q_lc_le (off := 15) (tgt := 44) (by decide +kernel) (by decide +kernel) (by decide) (fun c28_1 => ?_) (fun c28_1 => ?_)
  · rw [if_pos c28_1] at h
    refine q_blk2 (pc2 := 45) (ls2 := [(0, .ref 125), (1, .long l1), (3, .long l3), (5, .long l5)]) (st2 := [.long 0, .ref 125]) (h2 := (q_K0, z2.1, q_u2 (q_u2 (q_u2 z2.2 125 1 r1) 125 2 l3) 125 3 l5, q_R0)) [(.lconst 0, 0, 0, 0, 0, 0)] (by decide +kernel) rfl rfl ⟨trivial, trivial⟩ ?_
    refine q_pick [0] rfl ?_
    exact t_X5_begin_45 h
  · rw [if_neg c28_1] at h
    have b3 : ¬ l5 = (0 : Int64) := by
      by_cases q : ¬ l5 = (0 : Int64)
      · exact q
      · rw [if_neg q] at h; cases h
    rw [if_pos b3] at h
    refine q_blk2 (pc2 := 41) (ls2 := [(0, .ref 125), (1, .long l1), (3, .long l3), (5, .long l5)]) (st2 := [.long ((r1 + l3) / l5), .ref 125]) (h2 := (q_K0, z2.1, q_u2 (q_u2 (q_u2 z2.2 125 1 r1) 125 2 l3) 125 3 l5, q_R0)) [(.aload_n 0, 0, 0, 0, 0, 0), (.getfield 21, 0, 5, 1, 0, 0), (.lload_n 3, 0, 0, 0, 0, 0), (.ladd, 0, 0, 0, 0, 0), (.lload 5, 0, 0, 0, 0, 0), (.ldiv, 0, 0, 0, 0, 0)] (by decide +kernel) rfl rfl ⟨trivial, rfl, trivial, trivial, trivial, b3, trivial⟩ ?_
    refine q_goto (off := 4) (tgt := 45) (by decide +kernel) (by decide) ?_
    refine q_pick [0] rfl ?_
    exact t_X5_begin_45 h
def T_X5_advance_79 (z : q_Z) (t0 : Int64) : Option (Unit × q_Z) :=
  some ((), (z.1, q_u2 z.2 125 4 t0))
set_option maxRecDepth 100000 in
set_option maxHeartbeats 4000000 in
theorem t_X5_advance_79 {z zR : q_Z} {t0 : Int64} {rv : Unit} (h : T_X5_advance_79 z t0 = some (rv, zR)) : q_Ex none 38 79 [] [.long t0, .ref 125] (q_K0, z.1, z.2, q_R0) none (q_K0, zR.1, zR.2, q_R0) := by
  unfold T_X5_advance_79 at h
  refine q_blk2 (pc2 := 82) (ls2 := []) (st2 := []) (h2 := (q_K0, z.1, q_u2 z.2 125 4 t0, q_R0)) [(.putfield 30, 0, 5, 4, 0, 0)] (by decide +kernel) rfl rfl ⟨rfl, trivial⟩ ?_
  cases h
  exact q_vret rfl (by decide +kernel)
/-- RootForms$Quotients.advance()V -/
def F_X5_advance (z : q_Z) : Option (Unit × q_Z) :=
  if (0 : Int64) < (z.2 125 3) then
    if ¬ (z.2 125 3) = (0 : Int64) then
      if (((z.2 125 0) - ((((z.2 125 4) * (z.2 125 3)) - (z.2 125 2)) * (((z.2 125 4) * (z.2 125 3)) - (z.2 125 2)))) / (z.2 125 3)) ≤ (0 : Int64) then
        T_X5_advance_79 (z.1, q_u2 (q_u2 z.2 125 2 (((z.2 125 4) * (z.2 125 3)) - (z.2 125 2))) 125 3 (((z.2 125 0) - ((((z.2 125 4) * (z.2 125 3)) - (z.2 125 2)) * (((z.2 125 4) * (z.2 125 3)) - (z.2 125 2)))) / (z.2 125 3))) 0
      else
        if ¬ (((z.2 125 0) - ((((z.2 125 4) * (z.2 125 3)) - (z.2 125 2)) * (((z.2 125 4) * (z.2 125 3)) - (z.2 125 2)))) / (z.2 125 3)) = (0 : Int64) then
          T_X5_advance_79 (z.1, q_u2 (q_u2 z.2 125 2 (((z.2 125 4) * (z.2 125 3)) - (z.2 125 2))) 125 3 (((z.2 125 0) - ((((z.2 125 4) * (z.2 125 3)) - (z.2 125 2)) * (((z.2 125 4) * (z.2 125 3)) - (z.2 125 2)))) / (z.2 125 3))) (((z.2 125 1) + (((z.2 125 4) * (z.2 125 3)) - (z.2 125 2))) / (((z.2 125 0) - ((((z.2 125 4) * (z.2 125 3)) - (z.2 125 2)) * (((z.2 125 4) * (z.2 125 3)) - (z.2 125 2)))) / (z.2 125 3)))
        else none
    else none
  else
    some ((), z)
set_option maxRecDepth 100000 in
set_option maxHeartbeats 4000000 in
theorem s_X5_advance {z zR : q_Z} {rv : Unit} (h : F_X5_advance z = some (rv, zR)) : q_Ca 38 [.ref 125] (q_K0, z.1, z.2, q_R0) none (q_K0, zR.1, zR.2, q_R0) := by
  refine q_Ca_of (by decide) (Nat.le_of_ble_eq_true rfl) ?_
  show q_Ex none 38 0 [(0, .ref 125)] [] (q_K0, z.1, z.2, q_R0) _ _
  unfold F_X5_advance at h
  refine q_blk2 (pc2 := 5) (ls2 := [(0, .ref 125)]) (st2 := [.long 0, .long (z.2 125 3)]) (h2 := (q_K0, z.1, z.2, q_R0)) [(.aload_n 0, 0, 0, 0, 0, 0), (.getfield 27, 0, 5, 3, 0, 0), (.lconst 0, 0, 0, 0, 0, 0)] (by decide +kernel) rfl rfl ⟨trivial, rfl, trivial, trivial⟩ ?_
  refine q_lc_gt (off := 4) (tgt := 10) (by decide +kernel) (by decide +kernel) (by decide) (fun c5_1 => ?_) (fun c5_1 => ?_)
  · rw [if_pos c5_1] at h
    have b1 : ¬ (z.2 125 3) = (0 : Int64) := by
      by_cases q : ¬ (z.2 125 3) = (0 : Int64)
      · exact q
      · rw [if_neg q] at h; cases h
    rw [if_pos b1] at h
    refine q_blk2 (pc2 := 57) (ls2 := [(0, .ref 125)]) (st2 := [.long 0, .long (((z.2 125 0) - ((((z.2 125 4) * (z.2 125 3)) - (z.2 125 2)) * (((z.2 125 4) * (z.2 125 3)) - (z.2 125 2)))) / (z.2 125 3)), .ref 125]) (h2 := (q_K0, z.1, q_u2 (q_u2 z.2 125 2 (((z.2 125 4) * (z.2 125 3)) - (z.2 125 2))) 125 3 (((z.2 125 0) - ((((z.2 125 4) * (z.2 125 3)) - (z.2 125 2)) * (((z.2 125 4) * (z.2 125 3)) - (z.2 125 2)))) / (z.2 125 3)), q_R0)) [(.aload_n 0, 0, 0, 0, 0, 0), (.aload_n 0, 0, 0, 0, 0, 0), (.getfield 30, 0, 5, 4, 0, 0), (.aload_n 0, 0, 0, 0, 0, 0), (.getfield 27, 0, 5, 3, 0, 0), (.lmul, 0, 0, 0, 0, 0), (.aload_n 0, 0, 0, 0, 0, 0), (.getfield 24, 0, 5, 2, 0, 0), (.lsub, 0, 0, 0, 0, 0), (.putfield 24, 0, 5, 2, 0, 0), (.aload_n 0, 0, 0, 0, 0, 0), (.aload_n 0, 0, 0, 0, 0, 0), (.getfield 9, 0, 5, 0, 0, 0), (.aload_n 0, 0, 0, 0, 0, 0), (.getfield 24, 0, 5, 2, 0, 0), (.aload_n 0, 0, 0, 0, 0, 0), (.getfield 24, 0, 5, 2, 0, 0), (.lmul, 0, 0, 0, 0, 0), (.lsub, 0, 0, 0, 0, 0), (.aload_n 0, 0, 0, 0, 0, 0), (.getfield 27, 0, 5, 3, 0, 0), (.ldiv, 0, 0, 0, 0, 0), (.putfield 27, 0, 5, 3, 0, 0), (.aload_n 0, 0, 0, 0, 0, 0), (.aload_n 0, 0, 0, 0, 0, 0), (.getfield 27, 0, 5, 3, 0, 0), (.lconst 0, 0, 0, 0, 0, 0)] (by decide +kernel) rfl rfl ⟨trivial, trivial, rfl, trivial, rfl, trivial, trivial, rfl, trivial, rfl, trivial, trivial, rfl, trivial, rfl, trivial, rfl, trivial, trivial, trivial, rfl, b1, rfl, trivial, trivial, rfl, trivial, trivial⟩ ?_
    refine q_lc_le (off := 20) (tgt := 78) (by decide +kernel) (by decide +kernel) (by decide) (fun c57_2 => ?_) (fun c57_2 => ?_)
    · rw [if_pos c57_2] at h
      refine q_blk2 (pc2 := 79) (ls2 := [(0, .ref 125)]) (st2 := [.long 0, .ref 125]) (h2 := (q_K0, z.1, q_u2 (q_u2 z.2 125 2 (((z.2 125 4) * (z.2 125 3)) - (z.2 125 2))) 125 3 (((z.2 125 0) - ((((z.2 125 4) * (z.2 125 3)) - (z.2 125 2)) * (((z.2 125 4) * (z.2 125 3)) - (z.2 125 2)))) / (z.2 125 3)), q_R0)) [(.lconst 0, 0, 0, 0, 0, 0)] (by decide +kernel) rfl rfl ⟨trivial, trivial⟩ ?_
      refine q_pick [] rfl ?_
      exact t_X5_advance_79 h
    · rw [if_neg c57_2] at h
      have b2 : ¬ (((z.2 125 0) - ((((z.2 125 4) * (z.2 125 3)) - (z.2 125 2)) * (((z.2 125 4) * (z.2 125 3)) - (z.2 125 2)))) / (z.2 125 3)) = (0 : Int64) := by
        by_cases q : ¬ (((z.2 125 0) - ((((z.2 125 4) * (z.2 125 3)) - (z.2 125 2)) * (((z.2 125 4) * (z.2 125 3)) - (z.2 125 2)))) / (z.2 125 3)) = (0 : Int64)
        · exact q
        · rw [if_neg q] at h; cases h
      rw [if_pos b2] at h
      refine q_blk2 (pc2 := 75) (ls2 := [(0, .ref 125)]) (st2 := [.long (((z.2 125 1) + (((z.2 125 4) * (z.2 125 3)) - (z.2 125 2))) / (((z.2 125 0) - ((((z.2 125 4) * (z.2 125 3)) - (z.2 125 2)) * (((z.2 125 4) * (z.2 125 3)) - (z.2 125 2)))) / (z.2 125 3))), .ref 125]) (h2 := (q_K0, z.1, q_u2 (q_u2 z.2 125 2 (((z.2 125 4) * (z.2 125 3)) - (z.2 125 2))) 125 3 (((z.2 125 0) - ((((z.2 125 4) * (z.2 125 3)) - (z.2 125 2)) * (((z.2 125 4) * (z.2 125 3)) - (z.2 125 2)))) / (z.2 125 3)), q_R0)) [(.aload_n 0, 0, 0, 0, 0, 0), (.getfield 21, 0, 5, 1, 0, 0), (.aload_n 0, 0, 0, 0, 0, 0), (.getfield 24, 0, 5, 2, 0, 0), (.ladd, 0, 0, 0, 0, 0), (.aload_n 0, 0, 0, 0, 0, 0), (.getfield 27, 0, 5, 3, 0, 0), (.ldiv, 0, 0, 0, 0, 0)] (by decide +kernel) rfl rfl ⟨trivial, rfl, trivial, rfl, trivial, trivial, rfl, b2, trivial⟩ ?_
      refine q_goto (off := 4) (tgt := 79) (by decide +kernel) (by decide) ?_
      refine q_pick [] rfl ?_
      exact t_X5_advance_79 h
  · rw [if_neg c5_1] at h
    cases h
    exact q_vret rfl (by decide +kernel)
/-- RootForms$Quotients.widenFraction()V -/
def F_X5_widenFraction (z : q_Z) : Option (Unit × q_Z) :=
  if (z.1 125 9) = (0 : Int32) then
    if (0 : Int64) < (z.2 125 4) then
      if ¬ (z.2 125 4) = (0 : Int64) then
        if (z.2 125 5) ≤ ((1000000000000000000 - (z.2 125 6)) / (z.2 125 4)) then
          some ((), (z.1, q_u2 (q_u2 (q_u2 (q_u2 z.2 125 6 (z.2 125 5)) 125 8 (z.2 125 7)) 125 5 (((z.2 125 4) * (z.2 125 5)) + (z.2 125 6))) 125 7 (((z.2 125 4) * (z.2 125 7)) + (z.2 125 8))))
        else
          some ((), (q_u2 z.1 125 9 1, z.2))
      else none
    else
      some ((), z)
  else
    some ((), z)
set_option maxRecDepth 100000 in
set_option maxHeartbeats 4000000 in
theorem s_X5_widenFraction {z zR : q_Z} {rv : Unit} (h : F_X5_widenFraction z = some (rv, zR)) : q_Ca 39 [.ref 125] (q_K0, z.1, z.2, q_R0) none (q_K0, zR.1, zR.2, q_R0) := by
  refine q_Ca_of (by decide) (Nat.le_of_ble_eq_true rfl) ?_
  show q_Ex none 39 0 [(0, .ref 125)] [] (q_K0, z.1, z.2, q_R0) _ _
  unfold F_X5_widenFraction at h
  refine q_blk2 (pc2 := 4) (ls2 := [(0, .ref 125)]) (st2 := [.int (z.1 125 9)]) (h2 := (q_K0, z.1, z.2, q_R0)) [(.aload_n 0, 0, 0, 0, 0, 0), (.getfield 45, 0, 5, 9, 0, 0)] (by decide +kernel) rfl rfl ⟨trivial, rfl, trivial⟩ ?_
  refine q_if_ne (off := 12) (tgt := 16) (by decide +kernel) (by decide) (fun c4_1 => ?_) (fun c4_1 => ?_)
  · rw [if_neg c4_1] at h
    cases h
    exact q_vret rfl (by decide +kernel)
  · rw [if_pos c4_1] at h
    refine q_blk2 (pc2 := 12) (ls2 := [(0, .ref 125)]) (st2 := [.long 0, .long (z.2 125 4)]) (h2 := (q_K0, z.1, z.2, q_R0)) [(.aload_n 0, 0, 0, 0, 0, 0), (.getfield 30, 0, 5, 4, 0, 0), (.lconst 0, 0, 0, 0, 0, 0)] (by decide +kernel) rfl rfl ⟨trivial, rfl, trivial, trivial⟩ ?_
    refine q_lc_gt (off := 4) (tgt := 17) (by decide +kernel) (by decide +kernel) (by decide) (fun c12_2 => ?_) (fun c12_2 => ?_)
    · rw [if_pos c12_2] at h
      have b1 : ¬ (z.2 125 4) = (0 : Int64) := by
        by_cases q : ¬ (z.2 125 4) = (0 : Int64)
        · exact q
        · rw [if_neg q] at h; cases h
      rw [if_pos b1] at h
      refine q_blk2 (pc2 := 34) (ls2 := [(0, .ref 125)]) (st2 := [.long ((1000000000000000000 - (z.2 125 6)) / (z.2 125 4)), .long (z.2 125 5)]) (h2 := (q_K0, z.1, z.2, q_R0)) [(.aload_n 0, 0, 0, 0, 0, 0), (.getfield 33, 0, 5, 5, 0, 0), (.ldc2_w 49, 0, 0, 0, 0, 1000000000000000000), (.aload_n 0, 0, 0, 0, 0, 0), (.getfield 36, 0, 5, 6, 0, 0), (.lsub, 0, 0, 0, 0, 0), (.aload_n 0, 0, 0, 0, 0, 0), (.getfield 30, 0, 5, 4, 0, 0), (.ldiv, 0, 0, 0, 0, 0)] (by decide +kernel) rfl rfl ⟨trivial, rfl, trivial, trivial, rfl, trivial, trivial, rfl, b1, trivial⟩ ?_
      refine q_lc_le (off := 9) (tgt := 44) (by decide +kernel) (by decide +kernel) (by decide) (fun c34_3 => ?_) (fun c34_3 => ?_)
      · rw [if_pos c34_3] at h
        refine q_blk2 (pc2 := 100) (ls2 := [(3, .long (((z.2 125 4) * (z.2 125 7)) + (z.2 125 8))), (1, .long (((z.2 125 4) * (z.2 125 5)) + (z.2 125 6))), (0, .ref 125)]) (st2 := []) (h2 := (q_K0, z.1, q_u2 (q_u2 (q_u2 (q_u2 z.2 125 6 (z.2 125 5)) 125 8 (z.2 125 7)) 125 5 (((z.2 125 4) * (z.2 125 5)) + (z.2 125 6))) 125 7 (((z.2 125 4) * (z.2 125 7)) + (z.2 125 8)), q_R0)) [(.aload_n 0, 0, 0, 0, 0, 0), (.getfield 30, 0, 5, 4, 0, 0), (.aload_n 0, 0, 0, 0, 0, 0), (.getfield 33, 0, 5, 5, 0, 0), (.lmul, 0, 0, 0, 0, 0), (.aload_n 0, 0, 0, 0, 0, 0), (.getfield 36, 0, 5, 6, 0, 0), (.ladd, 0, 0, 0, 0, 0), (.lstore_n 1, 0, 0, 0, 0, 0), (.aload_n 0, 0, 0, 0, 0, 0), (.getfield 30, 0, 5, 4, 0, 0), (.aload_n 0, 0, 0, 0, 0, 0), (.getfield 39, 0, 5, 7, 0, 0), (.lmul, 0, 0, 0, 0, 0), (.aload_n 0, 0, 0, 0, 0, 0), (.getfield 42, 0, 5, 8, 0, 0), (.ladd, 0, 0, 0, 0, 0), (.lstore_n 3, 0, 0, 0, 0, 0), (.aload_n 0, 0, 0, 0, 0, 0), (.aload_n 0, 0, 0, 0, 0, 0), (.getfield 33, 0, 5, 5, 0, 0), (.putfield 36, 0, 5, 6, 0, 0), (.aload_n 0, 0, 0, 0, 0, 0), (.aload_n 0, 0, 0, 0, 0, 0), (.getfield 39, 0, 5, 7, 0, 0), (.putfield 42, 0, 5, 8, 0, 0), (.aload_n 0, 0, 0, 0, 0, 0), (.lload_n 1, 0, 0, 0, 0, 0), (.putfield 33, 0, 5, 5, 0, 0), (.aload_n 0, 0, 0, 0, 0, 0), (.lload_n 3, 0, 0, 0, 0, 0), (.putfield 39, 0, 5, 7, 0, 0)] (by decide +kernel) rfl rfl ⟨trivial, rfl, trivial, rfl, trivial, trivial, rfl, trivial, trivial, trivial, rfl, trivial, rfl, trivial, trivial, rfl, trivial, trivial, trivial, trivial, rfl, rfl, trivial, trivial, rfl, rfl, trivial, trivial, rfl, trivial, trivial, rfl, trivial⟩ ?_
        cases h
        exact q_vret rfl (by decide +kernel)
      · rw [if_neg c34_3] at h
        refine q_blk2 (pc2 := 43) (ls2 := [(0, .ref 125)]) (st2 := []) (h2 := (q_K0, q_u2 z.1 125 9 1, z.2, q_R0)) [(.aload_n 0, 0, 0, 0, 0, 0), (.iconst 1, 0, 0, 0, 1, 0), (.putfield 45, 0, 5, 9, 0, 0)] (by decide +kernel) rfl rfl ⟨trivial, trivial, ⟨rfl, rfl, rfl⟩, trivial⟩ ?_
        cases h
        exact q_vret rfl (by decide +kernel)
    · rw [if_neg c12_2] at h
      cases h
      exact q_vret rfl (by decide +kernel)
def B_X5_goRound_15 : Int64 × Int32 × q_Z → Option ((Int64 × Int32 × q_Z) × Nat) := fun (l5, l7, z) =>
  if (100000 : Int32) ≤ l7 then
    some ((l5, l7, z), 1)
  else
    if (z.2 125 3) = l5 then
      some ((l5, l7, z), 1)
    else
      (F_X5_widenFraction z).bind fun (_, z6) =>
        (F_X5_advance z6).bind fun (_, z8) =>
          some ((l5, l7 + 1, z8), 0)
set_option maxRecDepth 100000 in
set_option maxHeartbeats 4000000 in
theorem b_X5_goRound_15 {s s2 : Int64 × Int32 × q_Z} {t : Nat} {r : Option Value} {h2 : q_H} (h : B_X5_goRound_15 s = some (s2, t)) (k0 : t = 0 → q_Ex none 40 15 [(0, .ref 125), (5, .long s2.1), (7, .int s2.2.1)] [] (q_K0, s2.2.2.1, s2.2.2.2, q_R0) r h2) (k1 : t = 1 → q_Ex none 40 46 [(0, .ref 125), (5, .long s2.1), (7, .int s2.2.1)] [] (q_K0, s2.2.2.1, s2.2.2.2, q_R0) r h2) : q_Ex none 40 15 [(0, .ref 125), (5, .long s.1), (7, .int s.2.1)] [] (q_K0, s.2.2.1, s.2.2.2, q_R0) r h2 := by
  unfold B_X5_goRound_15 at h
  obtain ⟨l5, l7, z⟩ := s
  dsimp only at h
  show q_Ex none 40 15 [(0, .ref 125), (5, .long l5), (7, .int l7)] [] (q_K0, z.1, z.2, q_R0) r h2
  refine q_blk2 (pc2 := 19) (ls2 := [(0, .ref 125), (5, .long l5), (7, .int l7)]) (st2 := [.int 100000, .int l7]) (h2 := (q_K0, z.1, z.2, q_R0)) [(.iload 7, 0, 0, 0, 0, 0), (.ldc 58, 0, 0, 0, 100000, 0)] (by decide +kernel) rfl rfl ⟨trivial, trivial, trivial⟩ ?_
  refine q_ic_ge (off := 27) (tgt := 46) (by decide +kernel) (by decide) (fun c19_1 => ?_) (fun c19_1 => ?_)
  · rw [if_pos c19_1] at h
    cases h
    refine q_pick [0, 1, 2] rfl ?_
    exact k1 rfl
  · rw [if_neg c19_1] at h
    refine q_blk2 (pc2 := 28) (ls2 := [(0, .ref 125), (5, .long l5), (7, .int l7)]) (st2 := [.long l5, .long (z.2 125 3)]) (h2 := (q_K0, z.1, z.2, q_R0)) [(.aload_n 0, 0, 0, 0, 0, 0), (.getfield 27, 0, 5, 3, 0, 0), (.lload 5, 0, 0, 0, 0, 0)] (by decide +kernel) rfl rfl ⟨trivial, rfl, trivial, trivial⟩ ?_
    refine q_lc_eq (off := 17) (tgt := 46) (by decide +kernel) (by decide +kernel) (by decide) (fun c28_2 => ?_) (fun c28_2 => ?_)
    · rw [if_pos c28_2] at h
      cases h
      refine q_pick [0, 1, 2] rfl ?_
      exact k1 rfl
    · rw [if_neg c28_2] at h
      refine q_blk2 (pc2 := 33) (ls2 := [(0, .ref 125), (5, .long l5), (7, .int l7)]) (st2 := [.ref 125]) (h2 := (q_K0, z.1, z.2, q_R0)) [(.aload_n 0, 0, 0, 0, 0, 0)] (by decide +kernel) rfl rfl ⟨trivial, trivial⟩ ?_
      obtain ⟨⟨_, z6⟩, hc9, h⟩ := Option.bind_eq_some_iff.mp h
      dsimp only at h
      refine q_cV0 (idx := 59) (h1 := (q_K0, z6.1, z6.2, q_R0)) [.ref 125] 39 125 5 [] [] rfl (by decide +kernel) (by decide +kernel) rfl (Nat.le_of_ble_eq_true rfl) rfl (by decide) (by decide +kernel) (by decide +kernel) (s_X5_widenFraction hc9) ?_
      refine q_blk2 (pc2 := 37) (ls2 := [(0, .ref 125), (5, .long l5), (7, .int l7)]) (st2 := [.ref 125]) (h2 := (q_K0, z6.1, z6.2, q_R0)) [(.aload_n 0, 0, 0, 0, 0, 0)] (by decide +kernel) rfl rfl ⟨trivial, trivial⟩ ?_
      obtain ⟨⟨_, z8⟩, hc10, h⟩ := Option.bind_eq_some_iff.mp h
      dsimp only at h
      refine q_cV0 (idx := 55) (h1 := (q_K0, z8.1, z8.2, q_R0)) [.ref 125] 38 125 5 [] [] rfl (by decide +kernel) (by decide +kernel) rfl (Nat.le_of_ble_eq_true rfl) rfl (by decide) (by decide +kernel) (by decide +kernel) (s_X5_advance hc10) ?_
      refine q_blk2 (pc2 := 43) (ls2 := [(7, .int (l7 + 1)), (0, .ref 125), (5, .long l5)]) (st2 := []) (h2 := (q_K0, z8.1, z8.2, q_R0)) [(.iinc 7 1, 0, 0, 0, 1, 0)] (by decide +kernel) rfl rfl ⟨trivial, trivial⟩ ?_
      refine q_goto (off := -28) (tgt := 15) (by decide +kernel) (by decide) ?_
      cases h
      refine q_pick [1, 2, 0] rfl ?_
      exact k0 rfl
def T_X5_goRound_46 (z : q_Z) (l7 : Int32) : Option (Int32 × q_Z) :=
  some (l7, z)
set_option maxRecDepth 100000 in
set_option maxHeartbeats 4000000 in
theorem t_X5_goRound_46 {z zR : q_Z} {l7 : Int32} {rv : Int32} (h : T_X5_goRound_46 z l7 = some (rv, zR)) : q_Ex none 40 46 [(7, .int l7)] [] (q_K0, z.1, z.2, q_R0) (some (.int rv)) (q_K0, zR.1, zR.2, q_R0) := by
  unfold T_X5_goRound_46 at h
  refine q_blk2 (pc2 := 48) (ls2 := [(7, .int l7)]) (st2 := [.int l7]) (h2 := (q_K0, z.1, z.2, q_R0)) [(.iload 7, 0, 0, 0, 0, 0)] (by decide +kernel) rfl rfl ⟨trivial, trivial⟩ ?_
  cases h
  exact q_iret .int rfl rfl (by decide +kernel)
/-- RootForms$Quotients.goRound(JJJ)I -/
def F_X5_goRound (z : q_Z) (l1 : Int64) (l3 : Int64) (l5 : Int64) : Option (Int32 × q_Z) :=
  (F_X5_begin z l1 l3 l5).bind fun (_, z2) =>
    (F_X5_advance z2).bind fun (_, z4) =>
      (q_lp (B_X5_goRound_15) q_fu (l5, 1, z4)).bind fun ((w12, w13, z11), tg) =>
        if tg = 0 then
          T_X5_goRound_46 z11 w13
        else none
set_option maxRecDepth 100000 in
set_option maxHeartbeats 4000000 in
theorem s_X5_goRound {z zR : q_Z} {l1 : Int64} {l3 : Int64} {l5 : Int64} {rv : Int32} (h : F_X5_goRound z l1 l3 l5 = some (rv, zR)) : q_Ca 40 [.ref 125, .long l1, .long l3, .long l5] (q_K0, z.1, z.2, q_R0) (some (.int rv)) (q_K0, zR.1, zR.2, q_R0) := by
  refine q_Ca_of (by decide) (Nat.le_of_ble_eq_true rfl) ?_
  show q_Ex none 40 0 [(0, .ref 125), (1, .long l1), (3, .long l3), (5, .long l5)] [] (q_K0, z.1, z.2, q_R0) _ _
  unfold F_X5_goRound at h
  refine q_blk2 (pc2 := 5) (ls2 := [(0, .ref 125), (1, .long l1), (3, .long l3), (5, .long l5)]) (st2 := [.long l5, .long l3, .long l1, .ref 125]) (h2 := (q_K0, z.1, z.2, q_R0)) [(.aload_n 0, 0, 0, 0, 0, 0), (.lload_n 1, 0, 0, 0, 0, 0), (.lload_n 3, 0, 0, 0, 0, 0), (.lload 5, 0, 0, 0, 0, 0)] (by decide +kernel) rfl rfl ⟨trivial, trivial, trivial, trivial, trivial⟩ ?_
  obtain ⟨⟨_, z2⟩, hc14, h⟩ := Option.bind_eq_some_iff.mp h
  dsimp only at h
  refine q_cV0 (idx := 51) (h1 := (q_K0, z2.1, z2.2, q_R0)) [.long l5, .long l3, .long l1, .ref 125] 37 125 5 [.long l1, .long l3, .long l5] [] rfl (by decide +kernel) (by decide +kernel) rfl (Nat.le_of_ble_eq_true rfl) rfl (by decide) (by decide +kernel) (by decide +kernel) (s_X5_begin hc14) ?_
  refine q_blk2 (pc2 := 12) (ls2 := [(7, .int 1), (0, .ref 125), (1, .long l1), (3, .long l3), (5, .long l5)]) (st2 := [.ref 125]) (h2 := (q_K0, z2.1, z2.2, q_R0)) [(.iconst 1, 0, 0, 0, 1, 0), (.istore 7, 0, 0, 0, 0, 0), (.aload_n 0, 0, 0, 0, 0, 0)] (by decide +kernel) rfl rfl ⟨trivial, trivial, trivial, trivial⟩ ?_
  obtain ⟨⟨_, z4⟩, hc15, h⟩ := Option.bind_eq_some_iff.mp h
  dsimp only at h
  refine q_cV0 (idx := 55) (h1 := (q_K0, z4.1, z4.2, q_R0)) [.ref 125] 38 125 5 [] [] rfl (by decide +kernel) (by decide +kernel) rfl (Nat.le_of_ble_eq_true rfl) rfl (by decide) (by decide +kernel) (by decide +kernel) (s_X5_advance hc15) ?_
  obtain ⟨⟨⟨w12, w13, z11⟩, tg17⟩, hl16, h⟩ := Option.bind_eq_some_iff.mp h
  dsimp only at h
  refine q_pick [1, 4, 0] rfl ?_
  refine q_lp_ok (P := fun s => q_Ex _ 40 15 [(0, .ref 125), (5, .long s.1), (7, .int s.2.1)] [] (q_K0, s.2.2.1, s.2.2.2, q_R0) _ _) (X := fun u s => (u = 0 → q_Ex _ 40 46 [(0, .ref 125), (5, .long s.1), (7, .int s.2.1)] [] (q_K0, s.2.2.1, s.2.2.2, q_R0) _ _)) (fun s s2 t hh k0 kx => b_X5_goRound_15 hh k0 (fun e => (kx 0 e) rfl)) hl16 ?_
  · intro e_tg17
    subst e_tg17
    rw [if_pos rfl] at h
    show q_Ex _ 40 46 [(0, .ref 125), (5, .long w12), (7, .int w13)] [] (q_K0, z11.1, z11.2, q_R0) _ _
    refine q_pick [2] rfl ?_
    exact t_X5_goRound_46 h
def B_X5_goTo_10 : Int32 × Int32 × q_Z → Option ((Int32 × Int32 × q_Z) × Nat) := fun (l3, l4, z) =>
  if l3 ≤ l4 then
    some ((l3, l4, z), 1)
  else
    (F_X5_advance z).bind fun (_, z4) =>
      (F_X5_widenFraction z4).bind fun (_, z6) =>
        some ((l3, l4 + 1, z6), 0)
set_option maxRecDepth 100000 in
set_option maxHeartbeats 4000000 in
theorem b_X5_goTo_10 {s s2 : Int32 × Int32 × q_Z} {t : Nat} {r : Option Value} {h2 : q_H} (h : B_X5_goTo_10 s = some (s2, t)) (k0 : t = 0 → q_Ex none 41 10 [(0, .ref 125), (3, .int s2.1), (4, .int s2.2.1)] [] (q_K0, s2.2.2.1, s2.2.2.2, q_R0) r h2) (k1 : t = 1 → q_Ex none 41 30 [(0, .ref 125), (3, .int s2.1), (4, .int s2.2.1)] [] (q_K0, s2.2.2.1, s2.2.2.2, q_R0) r h2) : q_Ex none 41 10 [(0, .ref 125), (3, .int s.1), (4, .int s.2.1)] [] (q_K0, s.2.2.1, s.2.2.2, q_R0) r h2 := by
  unfold B_X5_goTo_10 at h
  obtain ⟨l3, l4, z⟩ := s
  dsimp only at h
  show q_Ex none 41 10 [(0, .ref 125), (3, .int l3), (4, .int l4)] [] (q_K0, z.1, z.2, q_R0) r h2
  refine q_blk2 (pc2 := 13) (ls2 := [(0, .ref 125), (3, .int l3), (4, .int l4)]) (st2 := [.int l3, .int l4]) (h2 := (q_K0, z.1, z.2, q_R0)) [(.iload 4, 0, 0, 0, 0, 0), (.iload_n 3, 0, 0, 0, 0, 0)] (by decide +kernel) rfl rfl ⟨trivial, trivial, trivial⟩ ?_
  refine q_ic_ge (off := 17) (tgt := 30) (by decide +kernel) (by decide) (fun c13_1 => ?_) (fun c13_1 => ?_)
  · rw [if_pos c13_1] at h
    cases h
    refine q_pick [0, 1, 2] rfl ?_
    exact k1 rfl
  · rw [if_neg c13_1] at h
    refine q_blk2 (pc2 := 17) (ls2 := [(0, .ref 125), (3, .int l3), (4, .int l4)]) (st2 := [.ref 125]) (h2 := (q_K0, z.1, z.2, q_R0)) [(.aload_n 0, 0, 0, 0, 0, 0)] (by decide +kernel) rfl rfl ⟨trivial, trivial⟩ ?_
    obtain ⟨⟨_, z4⟩, hc7, h⟩ := Option.bind_eq_some_iff.mp h
    dsimp only at h
    refine q_cV0 (idx := 55) (h1 := (q_K0, z4.1, z4.2, q_R0)) [.ref 125] 38 125 5 [] [] rfl (by decide +kernel) (by decide +kernel) rfl (Nat.le_of_ble_eq_true rfl) rfl (by decide) (by decide +kernel) (by decide +kernel) (s_X5_advance hc7) ?_
    refine q_blk2 (pc2 := 21) (ls2 := [(0, .ref 125), (3, .int l3), (4, .int l4)]) (st2 := [.ref 125]) (h2 := (q_K0, z4.1, z4.2, q_R0)) [(.aload_n 0, 0, 0, 0, 0, 0)] (by decide +kernel) rfl rfl ⟨trivial, trivial⟩ ?_
    obtain ⟨⟨_, z6⟩, hc8, h⟩ := Option.bind_eq_some_iff.mp h
    dsimp only at h
    refine q_cV0 (idx := 59) (h1 := (q_K0, z6.1, z6.2, q_R0)) [.ref 125] 39 125 5 [] [] rfl (by decide +kernel) (by decide +kernel) rfl (Nat.le_of_ble_eq_true rfl) rfl (by decide) (by decide +kernel) (by decide +kernel) (s_X5_widenFraction hc8) ?_
    refine q_blk2 (pc2 := 27) (ls2 := [(4, .int (l4 + 1)), (0, .ref 125), (3, .int l3)]) (st2 := []) (h2 := (q_K0, z6.1, z6.2, q_R0)) [(.iinc 4 1, 0, 0, 0, 1, 0)] (by decide +kernel) rfl rfl ⟨trivial, trivial⟩ ?_
    refine q_goto (off := -17) (tgt := 10) (by decide +kernel) (by decide) ?_
    cases h
    refine q_pick [1, 2, 0] rfl ?_
    exact k0 rfl
/-- RootForms$Quotients.goTo(JI)V -/
def F_X5_goTo (z : q_Z) (l1 : Int64) (l3 : Int32) : Option (Unit × q_Z) :=
  (F_X5_begin z l1 0 1).bind fun (_, z2) =>
    (q_lp (B_X5_goTo_10) q_fu (l3, 0, z2)).bind fun ((w10, w11, z9), tg) =>
      if tg = 0 then
        some ((), z9)
      else none
set_option maxRecDepth 100000 in
set_option maxHeartbeats 4000000 in
theorem s_X5_goTo {z zR : q_Z} {l1 : Int64} {l3 : Int32} {rv : Unit} (h : F_X5_goTo z l1 l3 = some (rv, zR)) : q_Ca 41 [.ref 125, .long l1, .int l3] (q_K0, z.1, z.2, q_R0) none (q_K0, zR.1, zR.2, q_R0) := by
  refine q_Ca_of (by decide) (Nat.le_of_ble_eq_true rfl) ?_
  show q_Ex none 41 0 [(0, .ref 125), (1, .long l1), (3, .int l3)] [] (q_K0, z.1, z.2, q_R0) _ _
  unfold F_X5_goTo at h
  refine q_blk2 (pc2 := 4) (ls2 := [(0, .ref 125), (1, .long l1), (3, .int l3)]) (st2 := [.long 1, .long 0, .long l1, .ref 125]) (h2 := (q_K0, z.1, z.2, q_R0)) [(.aload_n 0, 0, 0, 0, 0, 0), (.lload_n 1, 0, 0, 0, 0, 0), (.lconst 0, 0, 0, 0, 0, 0), (.lconst 1, 0, 0, 0, 0, 1)] (by decide +kernel) rfl rfl ⟨trivial, trivial, trivial, trivial, trivial⟩ ?_
  obtain ⟨⟨_, z2⟩, hc12, h⟩ := Option.bind_eq_some_iff.mp h
  dsimp only at h
  refine q_cV0 (idx := 51) (h1 := (q_K0, z2.1, z2.2, q_R0)) [.long 1, .long 0, .long l1, .ref 125] 37 125 5 [.long l1, .long 0, .long 1] [] rfl (by decide +kernel) (by decide +kernel) rfl (Nat.le_of_ble_eq_true rfl) rfl (by decide) (by decide +kernel) (by decide +kernel) (s_X5_begin hc12) ?_
  refine q_blk2 (pc2 := 10) (ls2 := [(4, .int 0), (0, .ref 125), (1, .long l1), (3, .int l3)]) (st2 := []) (h2 := (q_K0, z2.1, z2.2, q_R0)) [(.iconst 0, 0, 0, 0, 0, 0), (.istore 4, 0, 0, 0, 0, 0)] (by decide +kernel) rfl rfl ⟨trivial, trivial, trivial⟩ ?_
  obtain ⟨⟨⟨w10, w11, z9⟩, tg14⟩, hl13, h⟩ := Option.bind_eq_some_iff.mp h
  dsimp only at h
  refine q_pick [1, 3, 0] rfl ?_
  refine q_lp_ok (P := fun s => q_Ex _ 41 10 [(0, .ref 125), (3, .int s.1), (4, .int s.2.1)] [] (q_K0, s.2.2.1, s.2.2.2, q_R0) _ _) (X := fun u s => (u = 0 → q_Ex _ 41 30 [(0, .ref 125), (3, .int s.1), (4, .int s.2.1)] [] (q_K0, s.2.2.1, s.2.2.2, q_R0) _ _)) (fun s s2 t hh k0 kx => b_X5_goTo_10 hh k0 (fun e => (kx 0 e) rfl)) hl13 ?_
  · intro e_tg14
    subst e_tg14
    rw [if_pos rfl] at h
    show q_Ex _ 41 30 [(0, .ref 125), (3, .int w10), (4, .int w11)] [] (q_K0, z9.1, z9.2, q_R0) _ _
    cases h
    exact q_vret rfl (by decide +kernel)
/-- RootForms$Shelf.empty()V -/
def F_X6_empty (z : q_Z) : Option (Unit × q_Z) :=
  some ((), (q_u2 (q_u2 (q_u2 z.1 17 3 0) 17 4 0) 17 5 0, z.2))
set_option maxRecDepth 100000 in
set_option maxHeartbeats 4000000 in
theorem s_X6_empty {z zR : q_Z} {rv : Unit} (h : F_X6_empty z = some (rv, zR)) : q_Ca 43 [.ref 17] (q_K0, z.1, z.2, q_R0) none (q_K0, zR.1, zR.2, q_R0) := by
  refine q_Ca_of (by decide) (Nat.le_of_ble_eq_true rfl) ?_
  show q_Ex none 43 0 [(0, .ref 17)] [] (q_K0, z.1, z.2, q_R0) _ _
  unfold F_X6_empty at h
  refine q_blk2 (pc2 := 15) (ls2 := [(0, .ref 17)]) (st2 := []) (h2 := (q_K0, q_u2 (q_u2 (q_u2 z.1 17 3 0) 17 4 0) 17 5 0, z.2, q_R0)) [(.aload_n 0, 0, 0, 0, 0, 0), (.iconst 0, 0, 0, 0, 0, 0), (.putfield 25, 0, 6, 3, 0, 0), (.aload_n 0, 0, 0, 0, 0, 0), (.iconst 0, 0, 0, 0, 0, 0), (.putfield 29, 0, 6, 4, 0, 0), (.aload_n 0, 0, 0, 0, 0, 0), (.iconst 0, 0, 0, 0, 0, 0), (.putfield 32, 0, 6, 5, 0, 0)] (by decide +kernel) rfl rfl ⟨trivial, trivial, ⟨rfl, rfl, rfl⟩, trivial, trivial, ⟨rfl, rfl, rfl⟩, trivial, trivial, ⟨rfl, rfl, rfl⟩, trivial⟩ ?_
  cases h
  exact q_vret rfl (by decide +kernel)
def T_X6_at_18 (z : q_Z) : Option (Option Nat × q_Z) :=
  some (none, z)
set_option maxRecDepth 100000 in
set_option maxHeartbeats 4000000 in
theorem t_X6_at_18 {z zR : q_Z} {rv : Option Nat} (h : T_X6_at_18 z = some (rv, zR)) : q_Ex none 44 18 [] [] (q_K0, z.1, z.2, q_R0) (some (va_rf rv)) (q_K0, zR.1, zR.2, q_R0) := by
  unfold T_X6_at_18 at h
  refine q_blk2 (pc2 := 19) (ls2 := []) (st2 := [.null]) (h2 := (q_K0, z.1, z.2, q_R0)) [(.aconst_null, 0, 0, 0, 0, 0)] (by decide +kernel) rfl rfl ⟨trivial, trivial⟩ ?_
  refine q_goto (off := 9) (tgt := 28) (by decide +kernel) (by decide) ?_
  cases h
  exact q_nret _ rfl (by decide +kernel)
/-- RootForms$Shelf.at(I)LRootForms$Form; -/
def F_X6_at (z : q_Z) (l1 : Int32) : Option (Option Nat × q_Z) :=
  if l1 < (0 : Int32) then
    T_X6_at_18 z
  else
    if (z.1 17 3) ≤ l1 then
      T_X6_at_18 z
    else
      if l1 < (40 : Int32) then
        if 0 ≤ Int32.toInt l1 ∧ Int32.toInt l1 < 40 then
          some (q_R0 18 (Int32.toNatClampNeg l1), z)
        else none
      else
        T_X6_at_18 z
set_option maxRecDepth 100000 in
set_option maxHeartbeats 4000000 in
theorem s_X6_at {z zR : q_Z} {l1 : Int32} {rv : Option Nat} (h : F_X6_at z l1 = some (rv, zR)) : q_Ca 44 [.ref 17, .int l1] (q_K0, z.1, z.2, q_R0) (some (va_rf rv)) (q_K0, zR.1, zR.2, q_R0) := by
  refine q_Ca_of (by decide) (Nat.le_of_ble_eq_true rfl) ?_
  show q_Ex none 44 0 [(0, .ref 17), (1, .int l1)] [] (q_K0, z.1, z.2, q_R0) _ _
  unfold F_X6_at at h
  refine q_blk2 (pc2 := 1) (ls2 := [(0, .ref 17), (1, .int l1)]) (st2 := [.int l1]) (h2 := (q_K0, z.1, z.2, q_R0)) [(.iload_n 1, 0, 0, 0, 0, 0)] (by decide +kernel) rfl rfl ⟨trivial, trivial⟩ ?_
  refine q_if_lt (off := 17) (tgt := 18) (by decide +kernel) (by decide) (fun c1_1 => ?_) (fun c1_1 => ?_)
  · rw [if_pos c1_1] at h
    refine q_pick [] rfl ?_
    exact t_X6_at_18 h
  · rw [if_neg c1_1] at h
    refine q_blk2 (pc2 := 9) (ls2 := [(0, .ref 17), (1, .int l1)]) (st2 := [.int (z.1 17 3), .int l1]) (h2 := (q_K0, z.1, z.2, q_R0)) [(.iload_n 1, 0, 0, 0, 0, 0), (.aload_n 0, 0, 0, 0, 0, 0), (.getfield 25, 0, 6, 3, 0, 0)] (by decide +kernel) rfl rfl ⟨trivial, trivial, rfl, trivial⟩ ?_
    refine q_ic_ge (off := 9) (tgt := 18) (by decide +kernel) (by decide) (fun c9_2 => ?_) (fun c9_2 => ?_)
    · rw [if_pos c9_2] at h
      refine q_pick [] rfl ?_
      exact t_X6_at_18 h
    · rw [if_neg c9_2] at h
      refine q_blk2 (pc2 := 15) (ls2 := [(0, .ref 17), (1, .int l1)]) (st2 := [.int 40, .int l1]) (h2 := (q_K0, z.1, z.2, q_R0)) [(.iload_n 1, 0, 0, 0, 0, 0), (.bipush 40, 0, 0, 0, 40, 0)] (by decide +kernel) rfl rfl ⟨trivial, trivial, trivial⟩ ?_
      refine q_ic_lt (off := 7) (tgt := 22) (by decide +kernel) (by decide) (fun c15_3 => ?_) (fun c15_3 => ?_)
      · rw [if_pos c15_3] at h
        have b1 : 0 ≤ Int32.toInt l1 ∧ Int32.toInt l1 < 40 := by
          by_cases q : 0 ≤ Int32.toInt l1 ∧ Int32.toInt l1 < 40
          · exact q
          · rw [if_neg q] at h; cases h
        rw [if_pos b1] at h
        refine q_blk2 (pc2 := 28) (ls2 := [(0, .ref 17), (1, .int l1)]) (st2 := [va_rf (q_R0 18 (Int32.toNatClampNeg l1))]) (h2 := (q_K0, z.1, z.2, q_R0)) [(.aload_n 0, 0, 0, 0, 0, 0), (.getfield 11, 0, 6, 0, 0, 0), (.iload_n 1, 0, 0, 0, 0, 0), (.aaload, 0, 0, 0, 0, 0)] (by decide +kernel) rfl rfl ⟨trivial, rfl, trivial, ⟨_, rfl, vp_in_iff.mpr b1⟩, trivial⟩ ?_
        cases h
        exact q_rret _ rfl (by decide +kernel)
      · rw [if_neg c15_3] at h
        refine q_pick [] rfl ?_
        exact t_X6_at_18 h
theorem kf_X6_at {z z2 : q_Z} {l1 : Int32} {r : Option Nat} {o : Nat} (hc : F_X6_at z l1 = some (r, z2)) (he : r = some o) : q_kk o = some (.inl 1) := by
  subst he
  unfold F_X6_at T_X6_at_18 at hc
  repeat' split at hc
  all_goals (first | (cases hc; done) | (simp only [Option.some.injEq, Prod.mk.injEq] at hc; first | exact q_rf18 hc.1 | exact absurd hc.1 (by simp)))
def T_X6_remember_68 (z : q_Z) (t0 : Int32) : Option (Unit × q_Z) :=
  (F_J9_min_7cf53 (q_u2 z.1 17 5 t0, z.2) ((z.1 17 4) + 1) 60).bind fun (r3, z4) =>
    some ((), (q_u2 z4.1 17 4 r3, z4.2))
set_option maxRecDepth 100000 in
set_option maxHeartbeats 4000000 in
theorem t_X6_remember_68 {z zR : q_Z} {t0 : Int32} {rv : Unit} (h : T_X6_remember_68 z t0 = some (rv, zR)) : q_Ex none 46 68 [(0, .ref 17)] [.int t0, .ref 17] (q_K0, z.1, z.2, q_R0) none (q_K0, zR.1, zR.2, q_R0) := by
  unfold T_X6_remember_68 at h
  refine q_blk2 (pc2 := 80) (ls2 := [(0, .ref 17)]) (st2 := [.int 60, .int ((z.1 17 4) + 1), .ref 17]) (h2 := (q_K0, q_u2 z.1 17 5 t0, z.2, q_R0)) [(.putfield 32, 0, 6, 5, 0, 0), (.aload_n 0, 0, 0, 0, 0, 0), (.aload_n 0, 0, 0, 0, 0, 0), (.getfield 29, 0, 6, 4, 0, 0), (.iconst 1, 0, 0, 0, 1, 0), (.iadd, 0, 0, 0, 0, 0), (.bipush 60, 0, 0, 0, 60, 0)] (by decide +kernel) rfl rfl ⟨⟨rfl, rfl, rfl⟩, trivial, trivial, rfl, trivial, trivial, trivial, trivial⟩ ?_
  obtain ⟨⟨r3, z4⟩, hc5, h⟩ := Option.bind_eq_some_iff.mp h
  dsimp only at h
  refine q_cS1 (idx := 43) (v := .int r3) (h1 := (q_K0, z4.1, z4.2, q_R0)) [.int 60, .int ((z.1 17 4) + 1), .ref 17] 162 [.int ((z.1 17 4) + 1), .int 60] [.ref 17] rfl (by decide +kernel) (by decide +kernel) rfl (Nat.le_of_ble_eq_true rfl) (by decide +kernel) (s_J9_min_7cf53 hc5) ?_
  refine q_blk2 (pc2 := 86) (ls2 := [(0, .ref 17)]) (st2 := []) (h2 := (q_K0, q_u2 z4.1 17 4 r3, z4.2, q_R0)) [(.putfield 29, 0, 6, 4, 0, 0)] (by decide +kernel) rfl rfl ⟨⟨rfl, rfl, rfl⟩, trivial⟩ ?_
  cases h
  exact q_vret rfl (by decide +kernel)
def T_X6_remember_46 (z : q_Z) : Option (Unit × q_Z) :=
  if ((z.1 17 5) + 1) = (60 : Int32) then
    T_X6_remember_68 z 0
  else
    T_X6_remember_68 z ((z.1 17 5) + 1)
set_option maxRecDepth 100000 in
set_option maxHeartbeats 4000000 in
theorem t_X6_remember_46 {z zR : q_Z} {rv : Unit} (h : T_X6_remember_46 z = some (rv, zR)) : q_Ex none 46 46 [(0, .ref 17)] [] (q_K0, z.1, z.2, q_R0) none (q_K0, zR.1, zR.2, q_R0) := by
  unfold T_X6_remember_46 at h
  refine q_blk2 (pc2 := 55) (ls2 := [(0, .ref 17)]) (st2 := [.int 60, .int ((z.1 17 5) + 1), .ref 17]) (h2 := (q_K0, z.1, z.2, q_R0)) [(.aload_n 0, 0, 0, 0, 0, 0), (.aload_n 0, 0, 0, 0, 0, 0), (.getfield 32, 0, 6, 5, 0, 0), (.iconst 1, 0, 0, 0, 1, 0), (.iadd, 0, 0, 0, 0, 0), (.bipush 60, 0, 0, 0, 60, 0)] (by decide +kernel) rfl rfl ⟨trivial, trivial, rfl, trivial, trivial, trivial, trivial⟩ ?_
  refine q_ic_ne (off := 7) (tgt := 62) (by decide +kernel) (by decide) (fun c55_1 => ?_) (fun c55_1 => ?_)
  · rw [if_neg c55_1] at h
    refine q_blk2 (pc2 := 68) (ls2 := [(0, .ref 17)]) (st2 := [.int ((z.1 17 5) + 1), .ref 17]) (h2 := (q_K0, z.1, z.2, q_R0)) [(.aload_n 0, 0, 0, 0, 0, 0), (.getfield 32, 0, 6, 5, 0, 0), (.iconst 1, 0, 0, 0, 1, 0), (.iadd, 0, 0, 0, 0, 0)] (by decide +kernel) rfl rfl ⟨trivial, rfl, trivial, trivial, trivial⟩ ?_
    refine q_pick [0] rfl ?_
    exact t_X6_remember_68 h
  · rw [if_pos c55_1] at h
    refine q_blk2 (pc2 := 59) (ls2 := [(0, .ref 17)]) (st2 := [.int 0, .ref 17]) (h2 := (q_K0, z.1, z.2, q_R0)) [(.iconst 0, 0, 0, 0, 0, 0)] (by decide +kernel) rfl rfl ⟨trivial, trivial⟩ ?_
    refine q_goto (off := 9) (tgt := 68) (by decide +kernel) (by decide) ?_
    refine q_pick [0] rfl ?_
    exact t_X6_remember_68 h
/-- RootForms$Shelf.remember(ILRootForms$Form;)V -/
def F_X6_remember (o2 : Nat) (z : q_Z) (l1 : Int32) : Option (Unit × q_Z) :=
  if (z.1 17 5) < (0 : Int32) then
    some ((), z)
  else
    if (z.1 17 5) < (60 : Int32) then
      if 0 ≤ Int32.toInt (z.1 17 5) ∧ Int32.toInt (z.1 17 5) < 60 then
        match q_R0 59 (Int32.toNatClampNeg (z.1 17 5)) with
        | none =>
          T_X6_remember_46 (q_u2 z.1 120 (Int32.toNatClampNeg (z.1 17 5)) l1, z.2)
        | some oo2 =>
          (F_X1_copy oo2 o2 (q_u2 z.1 120 (Int32.toNatClampNeg (z.1 17 5)) l1, z.2)).bind fun (_, z7) =>
            T_X6_remember_46 z7
      else none
    else
      some ((), z)
set_option maxRecDepth 100000 in
set_option maxHeartbeats 4000000 in
theorem s_X6_remember {o2 : Nat} (ho2 : q_kk o2 = some (.inl 1)) {z zR : q_Z} {l1 : Int32} {rv : Unit} (h : F_X6_remember o2 z l1 = some (rv, zR)) : q_Ca 46 [.ref 17, .int l1, .ref o2] (q_K0, z.1, z.2, q_R0) none (q_K0, zR.1, zR.2, q_R0) := by
  refine q_Ca_of (by decide) (Nat.le_of_ble_eq_true rfl) ?_
  show q_Ex none 46 0 [(0, .ref 17), (1, .int l1), (2, .ref o2)] [] (q_K0, z.1, z.2, q_R0) _ _
  unfold F_X6_remember at h
  refine q_blk2 (pc2 := 4) (ls2 := [(0, .ref 17), (1, .int l1), (2, .ref o2)]) (st2 := [.int (z.1 17 5)]) (h2 := (q_K0, z.1, z.2, q_R0)) [(.aload_n 0, 0, 0, 0, 0, 0), (.getfield 32, 0, 6, 5, 0, 0)] (by decide +kernel) rfl rfl ⟨trivial, rfl, trivial⟩ ?_
  refine q_if_lt (off := 12) (tgt := 16) (by decide +kernel) (by decide) (fun c4_1 => ?_) (fun c4_1 => ?_)
  · rw [if_pos c4_1] at h
    cases h
    exact q_vret rfl (by decide +kernel)
  · rw [if_neg c4_1] at h
    refine q_blk2 (pc2 := 13) (ls2 := [(0, .ref 17), (1, .int l1), (2, .ref o2)]) (st2 := [.int 60, .int (z.1 17 5)]) (h2 := (q_K0, z.1, z.2, q_R0)) [(.aload_n 0, 0, 0, 0, 0, 0), (.getfield 32, 0, 6, 5, 0, 0), (.bipush 60, 0, 0, 0, 60, 0)] (by decide +kernel) rfl rfl ⟨trivial, rfl, trivial, trivial⟩ ?_
    refine q_ic_lt (off := 4) (tgt := 17) (by decide +kernel) (by decide) (fun c13_2 => ?_) (fun c13_2 => ?_)
    · rw [if_pos c13_2] at h
      have b1 : 0 ≤ Int32.toInt (z.1 17 5) ∧ Int32.toInt (z.1 17 5) < 60 := by
        by_cases q : 0 ≤ Int32.toInt (z.1 17 5) ∧ Int32.toInt (z.1 17 5) < 60
        · exact q
        · rw [if_neg q] at h; cases h
      rw [if_pos b1] at h
      refine q_blk2 (pc2 := 36) (ls2 := [(0, .ref 17), (1, .int l1), (2, .ref o2)]) (st2 := [va_rf (q_R0 59 (Int32.toNatClampNeg (z.1 17 5)))]) (h2 := (q_K0, q_u2 z.1 120 (Int32.toNatClampNeg (z.1 17 5)) l1, z.2, q_R0)) [(.aload_n 0, 0, 0, 0, 0, 0), (.getfield 21, 0, 6, 2, 0, 0), (.aload_n 0, 0, 0, 0, 0, 0), (.getfield 32, 0, 6, 5, 0, 0), (.iload_n 1, 0, 0, 0, 0, 0), (.iastore, 0, 0, 0, 0, 0), (.aload_n 0, 0, 0, 0, 0, 0), (.getfield 18, 0, 6, 1, 0, 0), (.aload_n 0, 0, 0, 0, 0, 0), (.getfield 32, 0, 6, 5, 0, 0), (.aaload, 0, 0, 0, 0, 0)] (by decide +kernel) rfl rfl ⟨trivial, rfl, trivial, rfl, trivial, ⟨_, rfl, vp_in_iff.mpr b1⟩, trivial, rfl, trivial, rfl, ⟨_, rfl, vp_in_iff.mpr b1⟩, trivial⟩ ?_
      rcases he8 : q_R0 59 (Int32.toNatClampNeg (z.1 17 5)) with _ | oo2
      · rw [he8] at h
        dsimp only at h
        show q_Ex _ _ 36 [(0, .ref 17), (1, .int l1), (2, .ref o2)] (.null :: []) (q_K0, q_u2 z.1 120 (Int32.toNatClampNeg (z.1 17 5)) l1, z.2, q_R0) _ _
        refine q_blk2 (pc2 := 38) (ls2 := [(3, .null), (0, .ref 17), (1, .int l1), (2, .ref o2)]) (st2 := [.null]) (h2 := (q_K0, q_u2 z.1 120 (Int32.toNatClampNeg (z.1 17 5)) l1, z.2, q_R0)) [(.astore_n 3, 0, 0, 0, 0, 0), (.aload_n 3, 0, 0, 0, 0, 0)] (by decide +kernel) rfl rfl ⟨trivial, trivial, trivial⟩ ?_
        refine q_nul_n (off := 8) (tgt := 46) (by decide +kernel) (by decide) ?_
        refine q_pick [1] rfl ?_
        exact t_X6_remember_46 h
      · rw [he8] at h
        dsimp only at h
        show q_Ex _ _ 36 [(0, .ref 17), (1, .int l1), (2, .ref o2)] (.ref oo2 :: []) (q_K0, q_u2 z.1 120 (Int32.toNatClampNeg (z.1 17 5)) l1, z.2, q_R0) _ _
        have hoo2 := q_rf59 he8
        refine q_blk2 (pc2 := 38) (ls2 := [(3, .ref oo2), (0, .ref 17), (1, .int l1), (2, .ref o2)]) (st2 := [.ref oo2]) (h2 := (q_K0, q_u2 z.1 120 (Int32.toNatClampNeg (z.1 17 5)) l1, z.2, q_R0)) [(.astore_n 3, 0, 0, 0, 0, 0), (.aload_n 3, 0, 0, 0, 0, 0)] (by decide +kernel) rfl rfl ⟨trivial, trivial, trivial⟩ ?_
        refine q_nul_r (off := 8) (by decide +kernel) ?_
        refine q_blk2 (pc2 := 43) (ls2 := [(3, .ref oo2), (0, .ref 17), (1, .int l1), (2, .ref o2)]) (st2 := [.ref o2, .ref oo2]) (h2 := (q_K0, q_u2 z.1 120 (Int32.toNatClampNeg (z.1 17 5)) l1, z.2, q_R0)) [(.aload_n 3, 0, 0, 0, 0, 0), (.aload_n 2, 0, 0, 0, 0, 0)] (by decide +kernel) rfl rfl ⟨trivial, trivial, trivial⟩ ?_
        obtain ⟨⟨_, z7⟩, hc9, h⟩ := Option.bind_eq_some_iff.mp h
        dsimp only at h
        refine q_cV0 (idx := 39) (h1 := (q_K0, z7.1, z7.2, q_R0)) [.ref o2, .ref oo2] 13 oo2 1 [.ref o2] [] rfl (by decide +kernel) (by decide +kernel) rfl (Nat.le_of_ble_eq_true rfl) hoo2 (by decide) (by decide +kernel) (by decide +kernel) (s_X1_copy hoo2 ho2 hc9) ?_
        refine q_pick [1] rfl ?_
        exact t_X6_remember_46 h
    · rw [if_neg c13_2] at h
      cases h
      exact q_vret rfl (by decide +kernel)
def T_X6_lay_16 (z : q_Z) : Option (Int32 × q_Z) :=
  some ((-1), z)
set_option maxRecDepth 100000 in
set_option maxHeartbeats 4000000 in
theorem t_X6_lay_16 {z zR : q_Z} {rv : Int32} (h : T_X6_lay_16 z = some (rv, zR)) : q_Ex none 45 16 [] [] (q_K0, z.1, z.2, q_R0) (some (.int rv)) (q_K0, zR.1, zR.2, q_R0) := by
  unfold T_X6_lay_16 at h
  refine q_blk2 (pc2 := 17) (ls2 := []) (st2 := [.int (-1)]) (h2 := (q_K0, z.1, z.2, q_R0)) [(.iconst (-1), 0, 0, 0, (-1), 0)] (by decide +kernel) rfl rfl ⟨trivial, trivial⟩ ?_
  cases h
  exact q_iret .int rfl rfl (by decide +kernel)
def T_X6_lay_43 (z : q_Z) : Option (Int32 × q_Z) :=
  some (((z.1 17 3) + 1) - 1, (q_u2 z.1 17 3 ((z.1 17 3) + 1), z.2))
set_option maxRecDepth 100000 in
set_option maxHeartbeats 4000000 in
theorem t_X6_lay_43 {z zR : q_Z} {rv : Int32} (h : T_X6_lay_43 z = some (rv, zR)) : q_Ex none 45 43 [(0, .ref 17)] [] (q_K0, z.1, z.2, q_R0) (some (.int rv)) (q_K0, zR.1, zR.2, q_R0) := by
  unfold T_X6_lay_43 at h
  refine q_blk2 (pc2 := 59) (ls2 := [(0, .ref 17)]) (st2 := [.int (((z.1 17 3) + 1) - 1)]) (h2 := (q_K0, q_u2 z.1 17 3 ((z.1 17 3) + 1), z.2, q_R0)) [(.aload_n 0, 0, 0, 0, 0, 0), (.dup, 0, 0, 0, 0, 0), (.getfield 25, 0, 6, 3, 0, 0), (.iconst 1, 0, 0, 0, 1, 0), (.iadd, 0, 0, 0, 0, 0), (.putfield 25, 0, 6, 3, 0, 0), (.aload_n 0, 0, 0, 0, 0, 0), (.getfield 25, 0, 6, 3, 0, 0), (.iconst 1, 0, 0, 0, 1, 0), (.isub, 0, 0, 0, 0, 0)] (by decide +kernel) rfl rfl ⟨trivial, trivial, rfl, trivial, trivial, ⟨rfl, rfl, rfl⟩, trivial, rfl, trivial, trivial, trivial⟩ ?_
  cases h
  exact q_iret .int rfl rfl (by decide +kernel)
/-- RootForms$Shelf.lay(LRootForms$Form;)I -/
def F_X6_lay (o1 : Nat) (z : q_Z) : Option (Int32 × q_Z) :=
  if (z.1 17 3) < (0 : Int32) then
    T_X6_lay_16 z
  else
    if (z.1 17 3) < (40 : Int32) then
      (F_X6_remember o1 z (-1)).bind fun (_, z2) =>
        if 0 ≤ Int32.toInt (z2.1 17 3) ∧ Int32.toInt (z2.1 17 3) < 40 then
          match q_R0 18 (Int32.toNatClampNeg (z2.1 17 3)) with
          | none =>
            T_X6_lay_43 z2
          | some oo4 =>
            (F_X1_copy oo4 o1 z2).bind fun (_, z6) =>
              T_X6_lay_43 z6
        else none
    else
      T_X6_lay_16 z
set_option maxRecDepth 100000 in
set_option maxHeartbeats 4000000 in
theorem s_X6_lay {o1 : Nat} (ho1 : q_kk o1 = some (.inl 1)) {z zR : q_Z} {rv : Int32} (h : F_X6_lay o1 z = some (rv, zR)) : q_Ca 45 [.ref 17, .ref o1] (q_K0, z.1, z.2, q_R0) (some (.int rv)) (q_K0, zR.1, zR.2, q_R0) := by
  refine q_Ca_of (by decide) (Nat.le_of_ble_eq_true rfl) ?_
  show q_Ex none 45 0 [(0, .ref 17), (1, .ref o1)] [] (q_K0, z.1, z.2, q_R0) _ _
  unfold F_X6_lay at h
  refine q_blk2 (pc2 := 4) (ls2 := [(0, .ref 17), (1, .ref o1)]) (st2 := [.int (z.1 17 3)]) (h2 := (q_K0, z.1, z.2, q_R0)) [(.aload_n 0, 0, 0, 0, 0, 0), (.getfield 25, 0, 6, 3, 0, 0)] (by decide +kernel) rfl rfl ⟨trivial, rfl, trivial⟩ ?_
  refine q_if_lt (off := 12) (tgt := 16) (by decide +kernel) (by decide) (fun c4_1 => ?_) (fun c4_1 => ?_)
  · rw [if_pos c4_1] at h
    refine q_pick [] rfl ?_
    exact t_X6_lay_16 h
  · rw [if_neg c4_1] at h
    refine q_blk2 (pc2 := 13) (ls2 := [(0, .ref 17), (1, .ref o1)]) (st2 := [.int 40, .int (z.1 17 3)]) (h2 := (q_K0, z.1, z.2, q_R0)) [(.aload_n 0, 0, 0, 0, 0, 0), (.getfield 25, 0, 6, 3, 0, 0), (.bipush 40, 0, 0, 0, 40, 0)] (by decide +kernel) rfl rfl ⟨trivial, rfl, trivial, trivial⟩ ?_
    refine q_ic_lt (off := 5) (tgt := 18) (by decide +kernel) (by decide) (fun c13_2 => ?_) (fun c13_2 => ?_)
    · rw [if_pos c13_2] at h
      refine q_blk2 (pc2 := 21) (ls2 := [(0, .ref 17), (1, .ref o1)]) (st2 := [.ref o1, .int (-1), .ref 17]) (h2 := (q_K0, z.1, z.2, q_R0)) [(.aload_n 0, 0, 0, 0, 0, 0), (.iconst (-1), 0, 0, 0, (-1), 0), (.aload_n 1, 0, 0, 0, 0, 0)] (by decide +kernel) rfl rfl ⟨trivial, trivial, trivial, trivial⟩ ?_
      obtain ⟨⟨_, z2⟩, hc7, h⟩ := Option.bind_eq_some_iff.mp h
      dsimp only at h
      refine q_cV0 (idx := 35) (h1 := (q_K0, z2.1, z2.2, q_R0)) [.ref o1, .int (-1), .ref 17] 46 17 6 [.int (-1), .ref o1] [] rfl (by decide +kernel) (by decide +kernel) rfl (Nat.le_of_ble_eq_true rfl) rfl (by decide) (by decide +kernel) (by decide +kernel) (s_X6_remember ho1 hc7) ?_
      have b3 : 0 ≤ Int32.toInt (z2.1 17 3) ∧ Int32.toInt (z2.1 17 3) < 40 := by
        by_cases q : 0 ≤ Int32.toInt (z2.1 17 3) ∧ Int32.toInt (z2.1 17 3) < 40
        · exact q
        · rw [if_neg q] at h; cases h
      rw [if_pos b3] at h
      refine q_blk2 (pc2 := 33) (ls2 := [(0, .ref 17), (1, .ref o1)]) (st2 := [va_rf (q_R0 18 (Int32.toNatClampNeg (z2.1 17 3)))]) (h2 := (q_K0, z2.1, z2.2, q_R0)) [(.aload_n 0, 0, 0, 0, 0, 0), (.getfield 11, 0, 6, 0, 0, 0), (.aload_n 0, 0, 0, 0, 0, 0), (.getfield 25, 0, 6, 3, 0, 0), (.aaload, 0, 0, 0, 0, 0)] (by decide +kernel) rfl rfl ⟨trivial, rfl, trivial, rfl, ⟨_, rfl, vp_in_iff.mpr b3⟩, trivial⟩ ?_
      rcases he8 : q_R0 18 (Int32.toNatClampNeg (z2.1 17 3)) with _ | oo4
      · rw [he8] at h
        dsimp only at h
        show q_Ex _ _ 33 [(0, .ref 17), (1, .ref o1)] (.null :: []) (q_K0, z2.1, z2.2, q_R0) _ _
        refine q_blk2 (pc2 := 35) (ls2 := [(2, .null), (0, .ref 17), (1, .ref o1)]) (st2 := [.null]) (h2 := (q_K0, z2.1, z2.2, q_R0)) [(.astore_n 2, 0, 0, 0, 0, 0), (.aload_n 2, 0, 0, 0, 0, 0)] (by decide +kernel) rfl rfl ⟨trivial, trivial, trivial⟩ ?_
        refine q_nul_n (off := 8) (tgt := 43) (by decide +kernel) (by decide) ?_
        refine q_pick [1] rfl ?_
        exact t_X6_lay_43 h
      · rw [he8] at h
        dsimp only at h
        show q_Ex _ _ 33 [(0, .ref 17), (1, .ref o1)] (.ref oo4 :: []) (q_K0, z2.1, z2.2, q_R0) _ _
        have hoo4 := q_rf18 he8
        refine q_blk2 (pc2 := 35) (ls2 := [(2, .ref oo4), (0, .ref 17), (1, .ref o1)]) (st2 := [.ref oo4]) (h2 := (q_K0, z2.1, z2.2, q_R0)) [(.astore_n 2, 0, 0, 0, 0, 0), (.aload_n 2, 0, 0, 0, 0, 0)] (by decide +kernel) rfl rfl ⟨trivial, trivial, trivial⟩ ?_
        refine q_nul_r (off := 8) (by decide +kernel) ?_
        refine q_blk2 (pc2 := 40) (ls2 := [(2, .ref oo4), (0, .ref 17), (1, .ref o1)]) (st2 := [.ref o1, .ref oo4]) (h2 := (q_K0, z2.1, z2.2, q_R0)) [(.aload_n 2, 0, 0, 0, 0, 0), (.aload_n 1, 0, 0, 0, 0, 0)] (by decide +kernel) rfl rfl ⟨trivial, trivial, trivial⟩ ?_
        obtain ⟨⟨_, z6⟩, hc9, h⟩ := Option.bind_eq_some_iff.mp h
        dsimp only at h
        refine q_cV0 (idx := 39) (h1 := (q_K0, z6.1, z6.2, q_R0)) [.ref o1, .ref oo4] 13 oo4 1 [.ref o1] [] rfl (by decide +kernel) (by decide +kernel) rfl (Nat.le_of_ble_eq_true rfl) hoo4 (by decide) (by decide +kernel) (by decide +kernel) (s_X1_copy hoo4 ho1 hc9) ?_
        refine q_pick [1] rfl ?_
        exact t_X6_lay_43 h
    · rw [if_neg c13_2] at h
      refine q_pick [] rfl ?_
      exact t_X6_lay_16 h
def T_X6_takeBack_112 (z : q_Z) : Option (Int32 × q_Z) :=
  some (1, z)
set_option maxRecDepth 100000 in
set_option maxHeartbeats 4000000 in
theorem t_X6_takeBack_112 {z zR : q_Z} {rv : Int32} (h : T_X6_takeBack_112 z = some (rv, zR)) : q_Ex none 47 112 [] [] (q_K0, z.1, z.2, q_R0) (some (.int rv)) (q_K0, zR.1, zR.2, q_R0) := by
  unfold T_X6_takeBack_112 at h
  refine q_blk2 (pc2 := 113) (ls2 := []) (st2 := [.int 1]) (h2 := (q_K0, z.1, z.2, q_R0)) [(.iconst 1, 0, 0, 0, 1, 0)] (by decide +kernel) rfl rfl ⟨trivial, trivial⟩ ?_
  cases h
  exact q_iret .boolean rfl rfl (by decide +kernel)
def T_X6_takeBack_47 (z : q_Z) (t0 : Int32) : Option (Int32 × q_Z) :=
  if 0 ≤ Int32.toInt t0 ∧ Int32.toInt t0 < 60 then
    if (z.1 120 (Int32.toNatClampNeg t0)) = (-1 : Int32) then
      some (1, (q_u2 (q_u2 z.1 17 5 t0) 17 3 ((z.1 17 3) - 1), z.2))
    else
      if 0 ≤ Int32.toInt t0 ∧ Int32.toInt t0 < 60 then
        (F_X6_at (q_u2 z.1 17 5 t0, z.2) (z.1 120 (Int32.toNatClampNeg t0))).bind fun (r3, z4) =>
          match r3 with
          | none =>
            if 0 ≤ Int32.toInt (z4.1 17 5) ∧ Int32.toInt (z4.1 17 5) < 60 then
              match q_R0 59 (Int32.toNatClampNeg (z4.1 17 5)) with
              | none =>
                T_X6_takeBack_112 z4
              | some oo7 =>
                T_X6_takeBack_112 z4
            else none
          | some oo5 =>
            if 0 ≤ Int32.toInt (z4.1 17 5) ∧ Int32.toInt (z4.1 17 5) < 60 then
              match q_R0 59 (Int32.toNatClampNeg (z4.1 17 5)) with
              | none =>
                T_X6_takeBack_112 z4
              | some oo9 =>
                (F_X1_copy oo5 oo9 z4).bind fun (_, z11) =>
                  T_X6_takeBack_112 z11
            else none
      else none
  else none
set_option maxRecDepth 100000 in
set_option maxHeartbeats 4000000 in
theorem t_X6_takeBack_47 {z zR : q_Z} {t0 : Int32} {rv : Int32} (h : T_X6_takeBack_47 z t0 = some (rv, zR)) : q_Ex none 47 47 [(0, .ref 17)] [.int t0, .ref 17] (q_K0, z.1, z.2, q_R0) (some (.int rv)) (q_K0, zR.1, zR.2, q_R0) := by
  unfold T_X6_takeBack_47 at h
  have b1 : 0 ≤ Int32.toInt t0 ∧ Int32.toInt t0 < 60 := by
    by_cases q : 0 ≤ Int32.toInt t0 ∧ Int32.toInt t0 < 60
    · exact q
    · rw [if_neg q] at h; cases h
  rw [if_pos b1] at h
  refine q_blk2 (pc2 := 60) (ls2 := [(0, .ref 17)]) (st2 := [.int (-1), .int (z.1 120 (Int32.toNatClampNeg t0))]) (h2 := (q_K0, q_u2 z.1 17 5 t0, z.2, q_R0)) [(.putfield 32, 0, 6, 5, 0, 0), (.aload_n 0, 0, 0, 0, 0, 0), (.getfield 21, 0, 6, 2, 0, 0), (.aload_n 0, 0, 0, 0, 0, 0), (.getfield 32, 0, 6, 5, 0, 0), (.iaload, 0, 0, 0, 0, 0), (.iconst (-1), 0, 0, 0, (-1), 0)] (by decide +kernel) rfl rfl ⟨⟨rfl, rfl, rfl⟩, trivial, rfl, trivial, rfl, ⟨_, rfl, vp_in_iff.mpr b1⟩, trivial, trivial⟩ ?_
  refine q_ic_ne (off := 15) (tgt := 75) (by decide +kernel) (by decide) (fun c60_1 => ?_) (fun c60_1 => ?_)
  · rw [if_neg c60_1] at h
    have b2 : 0 ≤ Int32.toInt t0 ∧ Int32.toInt t0 < 60 := by
      by_cases q : 0 ≤ Int32.toInt t0 ∧ Int32.toInt t0 < 60
      · exact q
      · rw [if_neg q] at h; cases h
    rw [if_pos b2] at h
    refine q_blk2 (pc2 := 85) (ls2 := [(0, .ref 17)]) (st2 := [.int (z.1 120 (Int32.toNatClampNeg t0)), .ref 17]) (h2 := (q_K0, q_u2 z.1 17 5 t0, z.2, q_R0)) [(.aload_n 0, 0, 0, 0, 0, 0), (.aload_n 0, 0, 0, 0, 0, 0), (.getfield 21, 0, 6, 2, 0, 0), (.aload_n 0, 0, 0, 0, 0, 0), (.getfield 32, 0, 6, 5, 0, 0), (.iaload, 0, 0, 0, 0, 0)] (by decide +kernel) rfl rfl ⟨trivial, trivial, rfl, trivial, rfl, ⟨_, rfl, vp_in_iff.mpr b2⟩, trivial⟩ ?_
    obtain ⟨⟨r3, z4⟩, hc12, h⟩ := Option.bind_eq_some_iff.mp h
    dsimp only at h
    refine q_cV1 (idx := 49) (v := va_rf r3) (h1 := (q_K0, z4.1, z4.2, q_R0)) [.int (z.1 120 (Int32.toNatClampNeg t0)), .ref 17] 44 17 6 [.int (z.1 120 (Int32.toNatClampNeg t0))] [] rfl (by decide +kernel) (by decide +kernel) rfl (Nat.le_of_ble_eq_true rfl) rfl (by decide) (by decide +kernel) (by decide +kernel) (s_X6_at hc12) ?_
    rcases he13 : r3 with _ | oo5
    · rw [he13] at h
      dsimp only at h
      show q_Ex _ _ 88 [(0, .ref 17)] (.null :: []) (q_K0, z4.1, z4.2, q_R0) _ _
      have b6 : 0 ≤ Int32.toInt (z4.1 17 5) ∧ Int32.toInt (z4.1 17 5) < 60 := by
        by_cases q : 0 ≤ Int32.toInt (z4.1 17 5) ∧ Int32.toInt (z4.1 17 5) < 60
        · exact q
        · rw [if_neg q] at h; cases h
      rw [if_pos b6] at h
      refine q_blk2 (pc2 := 98) (ls2 := [(1, .null), (0, .ref 17)]) (st2 := [va_rf (q_R0 59 (Int32.toNatClampNeg (z4.1 17 5)))]) (h2 := (q_K0, z4.1, z4.2, q_R0)) [(.astore_n 1, 0, 0, 0, 0, 0), (.aload_n 0, 0, 0, 0, 0, 0), (.getfield 18, 0, 6, 1, 0, 0), (.aload_n 0, 0, 0, 0, 0, 0), (.getfield 32, 0, 6, 5, 0, 0), (.aaload, 0, 0, 0, 0, 0)] (by decide +kernel) rfl rfl ⟨trivial, trivial, rfl, trivial, rfl, ⟨_, rfl, vp_in_iff.mpr b6⟩, trivial⟩ ?_
      rcases he14 : q_R0 59 (Int32.toNatClampNeg (z4.1 17 5)) with _ | oo7
      · rw [he14] at h
        dsimp only at h
        show q_Ex _ _ 98 [(1, .null), (0, .ref 17)] (.null :: []) (q_K0, z4.1, z4.2, q_R0) _ _
        refine q_blk2 (pc2 := 100) (ls2 := [(2, .null), (1, .null), (0, .ref 17)]) (st2 := [.null]) (h2 := (q_K0, z4.1, z4.2, q_R0)) [(.astore_n 2, 0, 0, 0, 0, 0), (.aload_n 1, 0, 0, 0, 0, 0)] (by decide +kernel) rfl rfl ⟨trivial, trivial, trivial⟩ ?_
        refine q_nul_n (off := 12) (tgt := 112) (by decide +kernel) (by decide) ?_
        refine q_pick [] rfl ?_
        exact t_X6_takeBack_112 h
      · rw [he14] at h
        dsimp only at h
        show q_Ex _ _ 98 [(1, .null), (0, .ref 17)] (.ref oo7 :: []) (q_K0, z4.1, z4.2, q_R0) _ _
        have hoo7 := q_rf59 he14
        refine q_blk2 (pc2 := 100) (ls2 := [(2, .ref oo7), (1, .null), (0, .ref 17)]) (st2 := [.null]) (h2 := (q_K0, z4.1, z4.2, q_R0)) [(.astore_n 2, 0, 0, 0, 0, 0), (.aload_n 1, 0, 0, 0, 0, 0)] (by decide +kernel) rfl rfl ⟨trivial, trivial, trivial⟩ ?_
        refine q_nul_n (off := 12) (tgt := 112) (by decide +kernel) (by decide) ?_
        refine q_pick [] rfl ?_
        exact t_X6_takeBack_112 h
    · rw [he13] at h
      dsimp only at h
      show q_Ex _ _ 88 [(0, .ref 17)] (.ref oo5 :: []) (q_K0, z4.1, z4.2, q_R0) _ _
      have hoo5 : q_kk oo5 = some (.inl 1) := kf_X6_at hc12 he13
      have b8 : 0 ≤ Int32.toInt (z4.1 17 5) ∧ Int32.toInt (z4.1 17 5) < 60 := by
        by_cases q : 0 ≤ Int32.toInt (z4.1 17 5) ∧ Int32.toInt (z4.1 17 5) < 60
        · exact q
        · rw [if_neg q] at h; cases h
      rw [if_pos b8] at h
      refine q_blk2 (pc2 := 98) (ls2 := [(1, .ref oo5), (0, .ref 17)]) (st2 := [va_rf (q_R0 59 (Int32.toNatClampNeg (z4.1 17 5)))]) (h2 := (q_K0, z4.1, z4.2, q_R0)) [(.astore_n 1, 0, 0, 0, 0, 0), (.aload_n 0, 0, 0, 0, 0, 0), (.getfield 18, 0, 6, 1, 0, 0), (.aload_n 0, 0, 0, 0, 0, 0), (.getfield 32, 0, 6, 5, 0, 0), (.aaload, 0, 0, 0, 0, 0)] (by decide +kernel) rfl rfl ⟨trivial, trivial, rfl, trivial, rfl, ⟨_, rfl, vp_in_iff.mpr b8⟩, trivial⟩ ?_
      rcases he15 : q_R0 59 (Int32.toNatClampNeg (z4.1 17 5)) with _ | oo9
      · rw [he15] at h
        dsimp only at h
        show q_Ex _ _ 98 [(1, .ref oo5), (0, .ref 17)] (.null :: []) (q_K0, z4.1, z4.2, q_R0) _ _
        refine q_blk2 (pc2 := 100) (ls2 := [(2, .null), (1, .ref oo5), (0, .ref 17)]) (st2 := [.ref oo5]) (h2 := (q_K0, z4.1, z4.2, q_R0)) [(.astore_n 2, 0, 0, 0, 0, 0), (.aload_n 1, 0, 0, 0, 0, 0)] (by decide +kernel) rfl rfl ⟨trivial, trivial, trivial⟩ ?_
        refine q_nul_r (off := 12) (by decide +kernel) ?_
        refine q_blk2 (pc2 := 104) (ls2 := [(2, .null), (1, .ref oo5), (0, .ref 17)]) (st2 := [.null]) (h2 := (q_K0, z4.1, z4.2, q_R0)) [(.aload_n 2, 0, 0, 0, 0, 0)] (by decide +kernel) rfl rfl ⟨trivial, trivial⟩ ?_
        refine q_nul_n (off := 8) (tgt := 112) (by decide +kernel) (by decide) ?_
        refine q_pick [] rfl ?_
        exact t_X6_takeBack_112 h
      · rw [he15] at h
        dsimp only at h
        show q_Ex _ _ 98 [(1, .ref oo5), (0, .ref 17)] (.ref oo9 :: []) (q_K0, z4.1, z4.2, q_R0) _ _
        have hoo9 := q_rf59 he15
        refine q_blk2 (pc2 := 100) (ls2 := [(2, .ref oo9), (1, .ref oo5), (0, .ref 17)]) (st2 := [.ref oo5]) (h2 := (q_K0, z4.1, z4.2, q_R0)) [(.astore_n 2, 0, 0, 0, 0, 0), (.aload_n 1, 0, 0, 0, 0, 0)] (by decide +kernel) rfl rfl ⟨trivial, trivial, trivial⟩ ?_
        refine q_nul_r (off := 12) (by decide +kernel) ?_
        refine q_blk2 (pc2 := 104) (ls2 := [(2, .ref oo9), (1, .ref oo5), (0, .ref 17)]) (st2 := [.ref oo9]) (h2 := (q_K0, z4.1, z4.2, q_R0)) [(.aload_n 2, 0, 0, 0, 0, 0)] (by decide +kernel) rfl rfl ⟨trivial, trivial⟩ ?_
        refine q_nul_r (off := 8) (by decide +kernel) ?_
        refine q_blk2 (pc2 := 109) (ls2 := [(2, .ref oo9), (1, .ref oo5), (0, .ref 17)]) (st2 := [.ref oo9, .ref oo5]) (h2 := (q_K0, z4.1, z4.2, q_R0)) [(.aload_n 1, 0, 0, 0, 0, 0), (.aload_n 2, 0, 0, 0, 0, 0)] (by decide +kernel) rfl rfl ⟨trivial, trivial, trivial⟩ ?_
        obtain ⟨⟨_, z11⟩, hc16, h⟩ := Option.bind_eq_some_iff.mp h
        dsimp only at h
        refine q_cV0 (idx := 39) (h1 := (q_K0, z11.1, z11.2, q_R0)) [.ref oo9, .ref oo5] 13 oo5 1 [.ref oo9] [] rfl (by decide +kernel) (by decide +kernel) rfl (Nat.le_of_ble_eq_true rfl) hoo5 (by decide) (by decide +kernel) (by decide +kernel) (s_X1_copy hoo5 hoo9 hc16) ?_
        refine q_pick [] rfl ?_
        exact t_X6_takeBack_112 h
  · rw [if_pos c60_1] at h
    refine q_blk2 (pc2 := 74) (ls2 := [(0, .ref 17)]) (st2 := [.int 1]) (h2 := (q_K0, q_u2 (q_u2 z.1 17 5 t0) 17 3 ((z.1 17 3) - 1), z.2, q_R0)) [(.aload_n 0, 0, 0, 0, 0, 0), (.dup, 0, 0, 0, 0, 0), (.getfield 25, 0, 6, 3, 0, 0), (.iconst 1, 0, 0, 0, 1, 0), (.isub, 0, 0, 0, 0, 0), (.putfield 25, 0, 6, 3, 0, 0), (.iconst 1, 0, 0, 0, 1, 0)] (by decide +kernel) rfl rfl ⟨trivial, trivial, rfl, trivial, trivial, ⟨rfl, rfl, rfl⟩, trivial, trivial⟩ ?_
    cases h
    exact q_iret .boolean rfl rfl (by decide +kernel)
def T_X6_takeBack_36 (z : q_Z) : Option (Int32 × q_Z) :=
  T_X6_takeBack_47 z 59
set_option maxRecDepth 100000 in
set_option maxHeartbeats 4000000 in
theorem t_X6_takeBack_36 {z zR : q_Z} {rv : Int32} (h : T_X6_takeBack_36 z = some (rv, zR)) : q_Ex none 47 36 [(0, .ref 17)] [.ref 17] (q_K0, z.1, z.2, q_R0) (some (.int rv)) (q_K0, zR.1, zR.2, q_R0) := by
  unfold T_X6_takeBack_36 at h
  refine q_blk2 (pc2 := 38) (ls2 := [(0, .ref 17)]) (st2 := [.int 59, .ref 17]) (h2 := (q_K0, z.1, z.2, q_R0)) [(.bipush 59, 0, 0, 0, 59, 0)] (by decide +kernel) rfl rfl ⟨trivial, trivial⟩ ?_
  refine q_goto (off := 9) (tgt := 47) (by decide +kernel) (by decide) ?_
  refine q_pick [0] rfl ?_
  exact t_X6_takeBack_47 h
/-- RootForms$Shelf.takeBack()Z -/
def F_X6_takeBack (z : q_Z) : Option (Int32 × q_Z) :=
  if (0 : Int32) < (z.1 17 4) then
    if (z.1 17 5) ≤ (0 : Int32) then
      T_X6_takeBack_36 (q_u2 z.1 17 4 ((z.1 17 4) - 1), z.2)
    else
      if (z.1 17 5) < (60 : Int32) then
        T_X6_takeBack_47 (q_u2 z.1 17 4 ((z.1 17 4) - 1), z.2) ((z.1 17 5) - 1)
      else
        T_X6_takeBack_36 (q_u2 z.1 17 4 ((z.1 17 4) - 1), z.2)
  else
    some (0, z)
set_option maxRecDepth 100000 in
set_option maxHeartbeats 4000000 in
theorem s_X6_takeBack {z zR : q_Z} {rv : Int32} (h : F_X6_takeBack z = some (rv, zR)) : q_Ca 47 [.ref 17] (q_K0, z.1, z.2, q_R0) (some (.int rv)) (q_K0, zR.1, zR.2, q_R0) := by
  refine q_Ca_of (by decide) (Nat.le_of_ble_eq_true rfl) ?_
  show q_Ex none 47 0 [(0, .ref 17)] [] (q_K0, z.1, z.2, q_R0) _ _
  unfold F_X6_takeBack at h
  refine q_blk2 (pc2 := 4) (ls2 := [(0, .ref 17)]) (st2 := [.int (z.1 17 4)]) (h2 := (q_K0, z.1, z.2, q_R0)) [(.aload_n 0, 0, 0, 0, 0, 0), (.getfield 29, 0, 6, 4, 0, 0)] (by decide +kernel) rfl rfl ⟨trivial, rfl, trivial⟩ ?_
  refine q_if_gt (off := 5) (tgt := 9) (by decide +kernel) (by decide) (fun c4_1 => ?_) (fun c4_1 => ?_)
  · rw [if_pos c4_1] at h
    refine q_blk2 (pc2 := 24) (ls2 := [(0, .ref 17)]) (st2 := [.int (z.1 17 5), .ref 17]) (h2 := (q_K0, q_u2 z.1 17 4 ((z.1 17 4) - 1), z.2, q_R0)) [(.aload_n 0, 0, 0, 0, 0, 0), (.dup, 0, 0, 0, 0, 0), (.getfield 29, 0, 6, 4, 0, 0), (.iconst 1, 0, 0, 0, 1, 0), (.isub, 0, 0, 0, 0, 0), (.putfield 29, 0, 6, 4, 0, 0), (.aload_n 0, 0, 0, 0, 0, 0), (.aload_n 0, 0, 0, 0, 0, 0), (.getfield 32, 0, 6, 5, 0, 0)] (by decide +kernel) rfl rfl ⟨trivial, trivial, rfl, trivial, trivial, ⟨rfl, rfl, rfl⟩, trivial, trivial, rfl, trivial⟩ ?_
    refine q_if_le (off := 12) (tgt := 36) (by decide +kernel) (by decide) (fun c24_2 => ?_) (fun c24_2 => ?_)
    · rw [if_pos c24_2] at h
      refine q_pick [0] rfl ?_
      exact t_X6_takeBack_36 h
    · rw [if_neg c24_2] at h
      refine q_blk2 (pc2 := 33) (ls2 := [(0, .ref 17)]) (st2 := [.int 60, .int (z.1 17 5), .ref 17]) (h2 := (q_K0, q_u2 z.1 17 4 ((z.1 17 4) - 1), z.2, q_R0)) [(.aload_n 0, 0, 0, 0, 0, 0), (.getfield 32, 0, 6, 5, 0, 0), (.bipush 60, 0, 0, 0, 60, 0)] (by decide +kernel) rfl rfl ⟨trivial, rfl, trivial, trivial⟩ ?_
      refine q_ic_lt (off := 8) (tgt := 41) (by decide +kernel) (by decide) (fun c33_3 => ?_) (fun c33_3 => ?_)
      · rw [if_pos c33_3] at h
        refine q_blk2 (pc2 := 47) (ls2 := [(0, .ref 17)]) (st2 := [.int ((z.1 17 5) - 1), .ref 17]) (h2 := (q_K0, q_u2 z.1 17 4 ((z.1 17 4) - 1), z.2, q_R0)) [(.aload_n 0, 0, 0, 0, 0, 0), (.getfield 32, 0, 6, 5, 0, 0), (.iconst 1, 0, 0, 0, 1, 0), (.isub, 0, 0, 0, 0, 0)] (by decide +kernel) rfl rfl ⟨trivial, rfl, trivial, trivial, trivial⟩ ?_
        refine q_pick [0] rfl ?_
        exact t_X6_takeBack_47 h
      · rw [if_neg c33_3] at h
        refine q_pick [0] rfl ?_
        exact t_X6_takeBack_36 h
  · rw [if_neg c4_1] at h
    refine q_blk2 (pc2 := 8) (ls2 := [(0, .ref 17)]) (st2 := [.int 0]) (h2 := (q_K0, z.1, z.2, q_R0)) [(.iconst 0, 0, 0, 0, 0, 0)] (by decide +kernel) rfl rfl ⟨trivial, trivial⟩ ?_
    cases h
    exact q_iret .boolean rfl rfl (by decide +kernel)
