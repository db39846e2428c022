/-! pure functions of the methods, and that the methods do what they say (written by wip/whole/dec.py) -/
def T_X0_hasClass_23 (z : q_Z) : Option (Int32 × q_Z) :=
  some (0, z)
set_option maxRecDepth 100000 in
set_option maxHeartbeats 4000000 in
theorem t_X0_hasClass_23 {z zR : q_Z} {rv : Int32} (h : T_X0_hasClass_23 z = some (rv, zR)) : q_Ex none 1 23 [] [] (q_K0, z.1, z.2, q_R0) (some (.int rv)) (q_K0, zR.1, zR.2, q_R0) := by
  unfold T_X0_hasClass_23 at h
  refine q_blk2 (pc2 := 24) (ls2 := []) (st2 := [.int 0]) (h2 := (q_K0, z.1, z.2, q_R0)) [(.iconst 0, 0, 0, 0, 0, 0)] (by decide +kernel) rfl rfl ⟨trivial, trivial⟩ ?_
  cases h
  exact q_iret .boolean rfl rfl (by decide +kernel)
/-- RootForms$ClassTable.hasClass(I)Z -/
def F_X0_hasClass (z : q_Z) (l1 : Int32) : Option (Int32 × q_Z) :=
  if l1 < (0 : Int32) then
    T_X0_hasClass_23 z
  else
    if (z.1 3 10) ≤ l1 then
      T_X0_hasClass_23 z
    else
      if (128 : Int32) ≤ l1 then
        T_X0_hasClass_23 z
      else
        some (1, z)
set_option maxRecDepth 100000 in
set_option maxHeartbeats 4000000 in
theorem s_X0_hasClass {z zR : q_Z} {l1 : Int32} {rv : Int32} (h : F_X0_hasClass z l1 = some (rv, zR)) : q_Ca 1 [.ref 3, .int l1] (q_K0, z.1, z.2, q_R0) (some (.int rv)) (q_K0, zR.1, zR.2, q_R0) := by
  refine q_Ca_of (by decide) (Nat.le_of_ble_eq_true rfl) ?_
  show q_Ex none 1 0 [(0, .ref 3), (1, .int l1)] [] (q_K0, z.1, z.2, q_R0) _ _
  unfold F_X0_hasClass at h
  refine q_blk2 (pc2 := 1) (ls2 := [(0, .ref 3), (1, .int l1)]) (st2 := [.int l1]) (h2 := (q_K0, z.1, z.2, q_R0)) [(.iload_n 1, 0, 0, 0, 0, 0)] (by decide +kernel) rfl rfl ⟨trivial, trivial⟩ ?_
  refine q_if_lt (off := 22) (tgt := 23) (by decide +kernel) (by decide) (fun c1_1 => ?_) (fun c1_1 => ?_)
  · rw [if_pos c1_1] at h
    refine q_pick [] rfl ?_
    exact t_X0_hasClass_23 h
  · rw [if_neg c1_1] at h
    refine q_blk2 (pc2 := 9) (ls2 := [(0, .ref 3), (1, .int l1)]) (st2 := [.int (z.1 3 10), .int l1]) (h2 := (q_K0, z.1, z.2, q_R0)) [(.iload_n 1, 0, 0, 0, 0, 0), (.aload_n 0, 0, 0, 0, 0, 0), (.getfield 47, 0, 0, 10, 0, 0)] (by decide +kernel) rfl rfl ⟨trivial, trivial, rfl, trivial⟩ ?_
    refine q_ic_ge (off := 14) (tgt := 23) (by decide +kernel) (by decide) (fun c9_2 => ?_) (fun c9_2 => ?_)
    · rw [if_pos c9_2] at h
      refine q_pick [] rfl ?_
      exact t_X0_hasClass_23 h
    · rw [if_neg c9_2] at h
      refine q_blk2 (pc2 := 16) (ls2 := [(0, .ref 3), (1, .int l1)]) (st2 := [.int 128, .int l1]) (h2 := (q_K0, z.1, z.2, q_R0)) [(.iload_n 1, 0, 0, 0, 0, 0), (.sipush 128, 0, 0, 0, 128, 0)] (by decide +kernel) rfl rfl ⟨trivial, trivial, trivial⟩ ?_
      refine q_ic_ge (off := 7) (tgt := 23) (by decide +kernel) (by decide) (fun c16_3 => ?_) (fun c16_3 => ?_)
      · rw [if_pos c16_3] at h
        refine q_pick [] rfl ?_
        exact t_X0_hasClass_23 h
      · rw [if_neg c16_3] at h
        refine q_blk2 (pc2 := 20) (ls2 := [(0, .ref 3), (1, .int l1)]) (st2 := [.int 1]) (h2 := (q_K0, z.1, z.2, q_R0)) [(.iconst 1, 0, 0, 0, 1, 0)] (by decide +kernel) rfl rfl ⟨trivial, trivial⟩ ?_
        refine q_goto (off := 4) (tgt := 24) (by decide +kernel) (by decide) ?_
        cases h
        exact q_iret .boolean rfl rfl (by decide +kernel)
/-- RootForms$ClassTable.listWalker()V -/
def F_X0_listWalker (z : q_Z) : Option (Unit × q_Z) :=
  if (z.1 3 9) < (0 : Int32) then
    some ((), z)
  else
    if (z.1 3 9) < (128 : Int32) then
      (F_X1_part 10 z 0).bind fun (r1, z2) =>
        if 0 ≤ Int32.toInt (z.1 3 9) ∧ Int32.toInt (z.1 3 9) < 128 then
          (F_X1_part 10 (q_u2 z2.1 5 (Int32.toNatClampNeg (z.1 3 9)) r1, z2.2) 1).bind fun (r4, z5) =>
            if 0 ≤ Int32.toInt (z2.1 3 9) ∧ Int32.toInt (z2.1 3 9) < 128 then
              (F_X1_part 10 (q_u2 z5.1 6 (Int32.toNatClampNeg (z2.1 3 9)) r4, z5.2) 2).bind fun (r7, z8) =>
                if 0 ≤ Int32.toInt (z5.1 3 9) ∧ Int32.toInt (z5.1 3 9) < 128 then
                  if 0 ≤ Int32.toInt (z8.1 3 9) ∧ Int32.toInt (z8.1 3 9) < 128 then
                    some ((), (q_u2 (q_u2 (q_u2 z8.1 7 (Int32.toNatClampNeg (z5.1 3 9)) r7) 8 (Int32.toNatClampNeg (z8.1 3 9)) (-1)) 3 9 ((z8.1 3 9) + 1), z8.2))
                  else none
                else none
            else none
        else none
    else
      some ((), z)
set_option maxRecDepth 100000 in
set_option maxHeartbeats 4000000 in
theorem s_X0_listWalker {z zR : q_Z} {rv : Unit} (h : F_X0_listWalker z = some (rv, zR)) : q_Ca 4 [.ref 3] (q_K0, z.1, z.2, q_R0) none (q_K0, zR.1, zR.2, q_R0) := by
  refine q_Ca_of (by decide) (Nat.le_of_ble_eq_true rfl) ?_
  show q_Ex none 4 0 [(0, .ref 3)] [] (q_K0, z.1, z.2, q_R0) _ _
  unfold F_X0_listWalker at h
  refine q_blk2 (pc2 := 4) (ls2 := [(0, .ref 3)]) (st2 := [.int (z.1 3 9)]) (h2 := (q_K0, z.1, z.2, q_R0)) [(.aload_n 0, 0, 0, 0, 0, 0), (.getfield 63, 0, 0, 9, 0, 0)] (by decide +kernel) rfl rfl ⟨trivial, rfl, trivial⟩ ?_
  refine q_if_lt (off := 13) (tgt := 17) (by decide +kernel) (by decide) (fun c4_1 => ?_) (fun c4_1 => ?_)
  · rw [if_pos c4_1] at h
    cases h
    exact q_vret rfl (by decide +kernel)
  · rw [if_neg c4_1] at h
    refine q_blk2 (pc2 := 14) (ls2 := [(0, .ref 3)]) (st2 := [.int 128, .int (z.1 3 9)]) (h2 := (q_K0, z.1, z.2, q_R0)) [(.aload_n 0, 0, 0, 0, 0, 0), (.getfield 63, 0, 0, 9, 0, 0), (.sipush 128, 0, 0, 0, 128, 0)] (by decide +kernel) rfl rfl ⟨trivial, rfl, trivial, trivial⟩ ?_
    refine q_ic_lt (off := 4) (tgt := 18) (by decide +kernel) (by decide) (fun c14_2 => ?_) (fun c14_2 => ?_)
    · rw [if_pos c14_2] at h
      refine q_blk2 (pc2 := 31) (ls2 := [(0, .ref 3)]) (st2 := [.int 0, .ref 10, .int (z.1 3 9), .ref 5]) (h2 := (q_K0, z.1, z.2, q_R0)) [(.aload_n 0, 0, 0, 0, 0, 0), (.getfield 18, 0, 0, 1, 0, 0), (.aload_n 0, 0, 0, 0, 0, 0), (.getfield 63, 0, 0, 9, 0, 0), (.aload_n 0, 0, 0, 0, 0, 0), (.getfield 37, 0, 0, 6, 0, 0), (.iconst 0, 0, 0, 0, 0, 0)] (by decide +kernel) rfl rfl ⟨trivial, rfl, trivial, rfl, trivial, rfl, trivial, trivial⟩ ?_
      obtain ⟨⟨r1, z2⟩, hc11, h⟩ := Option.bind_eq_some_iff.mp h
      dsimp only at h
      refine q_cV1 (idx := 92) (v := .int r1) (h1 := (q_K0, z2.1, z2.2, q_R0)) [.int 0, .ref 10, .int (z.1 3 9), .ref 5] 14 10 1 [.int 0] [.int (z.1 3 9), .ref 5] rfl (by decide +kernel) (by decide +kernel) rfl (Nat.le_of_ble_eq_true rfl) rfl (by decide) (by decide +kernel) (by decide +kernel) (s_X1_part rfl hc11) ?_
      have b3 : 0 ≤ Int32.toInt (z.1 3 9) ∧ Int32.toInt (z.1 3 9) < 128 := by
        by_cases q : 0 ≤ Int32.toInt (z.1 3 9) ∧ Int32.toInt (z.1 3 9) < 128
        · exact q
        · rw [if_neg q] at h; cases h
      rw [if_pos b3] at h
      refine q_blk2 (pc2 := 48) (ls2 := [(0, .ref 3)]) (st2 := [.int 1, .ref 10, .int (z2.1 3 9), .ref 6]) (h2 := (q_K0, q_u2 z2.1 5 (Int32.toNatClampNeg (z.1 3 9)) r1, z2.2, q_R0)) [(.iastore, 0, 0, 0, 0, 0), (.aload_n 0, 0, 0, 0, 0, 0), (.getfield 22, 0, 0, 2, 0, 0), (.aload_n 0, 0, 0, 0, 0, 0), (.getfield 63, 0, 0, 9, 0, 0), (.aload_n 0, 0, 0, 0, 0, 0), (.getfield 37, 0, 0, 6, 0, 0), (.iconst 1, 0, 0, 0, 1, 0)] (by decide +kernel) rfl rfl ⟨⟨_, rfl, vp_in_iff.mpr b3⟩, trivial, rfl, trivial, rfl, trivial, rfl, trivial, trivial⟩ ?_
      obtain ⟨⟨r4, z5⟩, hc12, h⟩ := Option.bind_eq_some_iff.mp h
      dsimp only at h
      refine q_cV1 (idx := 92) (v := .int r4) (h1 := (q_K0, z5.1, z5.2, q_R0)) [.int 1, .ref 10, .int (z2.1 3 9), .ref 6] 14 10 1 [.int 1] [.int (z2.1 3 9), .ref 6] rfl (by decide +kernel) (by decide +kernel) rfl (Nat.le_of_ble_eq_true rfl) rfl (by decide) (by decide +kernel) (by decide +kernel) (s_X1_part rfl hc12) ?_
      have b6 : 0 ≤ Int32.toInt (z2.1 3 9) ∧ Int32.toInt (z2.1 3 9) < 128 := by
        by_cases q : 0 ≤ Int32.toInt (z2.1 3 9) ∧ Int32.toInt (z2.1 3 9) < 128
        · exact q
        · rw [if_neg q] at h; cases h
      rw [if_pos b6] at h
      refine q_blk2 (pc2 := 65) (ls2 := [(0, .ref 3)]) (st2 := [.int 2, .ref 10, .int (z5.1 3 9), .ref 7]) (h2 := (q_K0, q_u2 z5.1 6 (Int32.toNatClampNeg (z2.1 3 9)) r4, z5.2, q_R0)) [(.iastore, 0, 0, 0, 0, 0), (.aload_n 0, 0, 0, 0, 0, 0), (.getfield 25, 0, 0, 3, 0, 0), (.aload_n 0, 0, 0, 0, 0, 0), (.getfield 63, 0, 0, 9, 0, 0), (.aload_n 0, 0, 0, 0, 0, 0), (.getfield 37, 0, 0, 6, 0, 0), (.iconst 2, 0, 0, 0, 2, 0)] (by decide +kernel) rfl rfl ⟨⟨_, rfl, vp_in_iff.mpr b6⟩, trivial, rfl, trivial, rfl, trivial, rfl, trivial, trivial⟩ ?_
      obtain ⟨⟨r7, z8⟩, hc13, h⟩ := Option.bind_eq_some_iff.mp h
      dsimp only at h
      refine q_cV1 (idx := 92) (v := .int r7) (h1 := (q_K0, z8.1, z8.2, q_R0)) [.int 2, .ref 10, .int (z5.1 3 9), .ref 7] 14 10 1 [.int 2] [.int (z5.1 3 9), .ref 7] rfl (by decide +kernel) (by decide +kernel) rfl (Nat.le_of_ble_eq_true rfl) rfl (by decide) (by decide +kernel) (by decide +kernel) (s_X1_part rfl hc13) ?_
      have b9 : 0 ≤ Int32.toInt (z5.1 3 9) ∧ Int32.toInt (z5.1 3 9) < 128 := by
        by_cases q : 0 ≤ Int32.toInt (z5.1 3 9) ∧ Int32.toInt (z5.1 3 9) < 128
        · exact q
        · rw [if_neg q] at h; cases h
      rw [if_pos b9] at h
      have b10 : 0 ≤ Int32.toInt (z8.1 3 9) ∧ Int32.toInt (z8.1 3 9) < 128 := by
        by_cases q : 0 ≤ Int32.toInt (z8.1 3 9) ∧ Int32.toInt (z8.1 3 9) < 128
        · exact q
        · rw [if_neg q] at h; cases h
      rw [if_pos b10] at h
      refine q_blk2 (pc2 := 89) (ls2 := [(0, .ref 3)]) (st2 := []) (h2 := (q_K0, q_u2 (q_u2 (q_u2 z8.1 7 (Int32.toNatClampNeg (z5.1 3 9)) r7) 8 (Int32.toNatClampNeg (z8.1 3 9)) (-1)) 3 9 ((z8.1 3 9) + 1), z8.2, q_R0)) [(.iastore, 0, 0, 0, 0, 0), (.aload_n 0, 0, 0, 0, 0, 0), (.getfield 28, 0, 0, 4, 0, 0), (.aload_n 0, 0, 0, 0, 0, 0), (.getfield 63, 0, 0, 9, 0, 0), (.iconst (-1), 0, 0, 0, (-1), 0), (.iastore, 0, 0, 0, 0, 0), (.aload_n 0, 0, 0, 0, 0, 0), (.dup, 0, 0, 0, 0, 0), (.getfield 63, 0, 0, 9, 0, 0), (.iconst 1, 0, 0, 0, 1, 0), (.iadd, 0, 0, 0, 0, 0), (.putfield 63, 0, 0, 9, 0, 0)] (by decide +kernel) rfl rfl ⟨⟨_, rfl, vp_in_iff.mpr b9⟩, trivial, rfl, trivial, rfl, trivial, ⟨_, rfl, vp_in_iff.mpr b10⟩, trivial, trivial, rfl, trivial, trivial, ⟨rfl, rfl, rfl⟩, trivial⟩ ?_
      cases h
      exact q_vret rfl (by decide +kernel)
    · rw [if_neg c14_2] at h
      cases h
      exact q_vret rfl (by decide +kernel)
def T_X0_listLeast_150 (z : q_Z) (l1 : Int32) (l2 : Int32) (l3 : Int32) (l4 : Int32) (l6 : Int32) (l7 : Int32) : Option ((Int32 × Int32 × Int32 × Int32 × Int32 × Int32 × q_Z) × Nat) :=
  some ((l1, l2, l3, l4, l6, l7 + 2, z), 0)
set_option maxRecDepth 100000 in
set_option maxHeartbeats 4000000 in
theorem t_X0_listLeast_150 {z : q_Z} {l1 : Int32} {l2 : Int32} {l3 : Int32} {l4 : Int32} {l6 : Int32} {l7 : Int32} {s2 : Int32 × Int32 × Int32 × Int32 × Int32 × Int32 × q_Z} {t : Nat} {r : Option Value} {h2 : q_H} (h : T_X0_listLeast_150 z l1 l2 l3 l4 l6 l7 = some (s2, t)) (k0 : t = 0 → q_Ex none 3 105 [(0, .ref 3), (1, .int s2.1), (2, .int s2.2.1), (3, .int s2.2.2.1), (4, .int s2.2.2.2.1), (6, .int s2.2.2.2.2.1), (7, .int s2.2.2.2.2.2.1)] [] (q_K0, s2.2.2.2.2.2.2.1, s2.2.2.2.2.2.2.2, q_R0) r h2) (k1 : t = 1 → q_Ex none 3 156 [(0, .ref 3), (1, .int s2.1), (2, .int s2.2.1), (3, .int s2.2.2.1), (4, .int s2.2.2.2.1), (6, .int s2.2.2.2.2.1), (7, .int s2.2.2.2.2.2.1)] [] (q_K0, s2.2.2.2.2.2.2.1, s2.2.2.2.2.2.2.2, q_R0) r h2) : q_Ex none 3 150 [(0, .ref 3), (1, .int l1), (2, .int l2), (3, .int l3), (4, .int l4), (6, .int l6), (7, .int l7)] [] (q_K0, z.1, z.2, q_R0) r h2 := by
  unfold T_X0_listLeast_150 at h
  refine q_blk2 (pc2 := 153) (ls2 := [(7, .int (l7 + 2)), (0, .ref 3), (1, .int l1), (2, .int l2), (3, .int l3), (4, .int l4), (6, .int l6)]) (st2 := []) (h2 := (q_K0, z.1, z.2, q_R0)) [(.iinc 7 2, 0, 0, 0, 2, 0)] (by decide +kernel) rfl rfl ⟨trivial, trivial⟩ ?_
  refine q_goto (off := -48) (tgt := 105) (by decide +kernel) (by decide) ?_
  cases h
  refine q_pick [1, 2, 3, 4, 5, 6, 0] rfl ?_
  exact k0 rfl
def B_X0_listLeast_105 : Int32 × Int32 × Int32 × Int32 × Int32 × Int32 × q_Z → Option ((Int32 × Int32 × Int32 × Int32 × Int32 × Int32 × q_Z) × Nat) := fun (l1, l2, l3, l4, l6, l7, z) =>
  if l6 < l7 then
    some ((l1, l2, l3, l4, l6, l7, z), 1)
  else
    (F_X2_complete 10 z (Int32.toInt64 l4) (Int32.toInt64 l7)).bind fun (r3, z4) =>
      if r3 = (0 : Int32) then
        T_X0_listLeast_150 z4 l1 l2 l3 l4 l6 l7
      else
        (F_X2_isLeast 10 z4).bind fun (r5, z6) =>
          if r5 = (0 : Int32) then
            T_X0_listLeast_150 z6 l1 l2 l3 l4 l6 l7
          else
            (F_X0_listWalker z6).bind fun (_, z8) =>
              T_X0_listLeast_150 z8 l1 l2 l3 l4 l6 l7
set_option maxRecDepth 100000 in
set_option maxHeartbeats 4000000 in
theorem b_X0_listLeast_105 {s s2 : Int32 × Int32 × Int32 × Int32 × Int32 × Int32 × q_Z} {t : Nat} {r : Option Value} {h2 : q_H} (h : B_X0_listLeast_105 s = some (s2, t)) (k0 : t = 0 → q_Ex none 3 105 [(0, .ref 3), (1, .int s2.1), (2, .int s2.2.1), (3, .int s2.2.2.1), (4, .int s2.2.2.2.1), (6, .int s2.2.2.2.2.1), (7, .int s2.2.2.2.2.2.1)] [] (q_K0, s2.2.2.2.2.2.2.1, s2.2.2.2.2.2.2.2, q_R0) r h2) (k1 : t = 1 → q_Ex none 3 156 [(0, .ref 3), (1, .int s2.1), (2, .int s2.2.1), (3, .int s2.2.2.1), (4, .int s2.2.2.2.1), (6, .int s2.2.2.2.2.1), (7, .int s2.2.2.2.2.2.1)] [] (q_K0, s2.2.2.2.2.2.2.1, s2.2.2.2.2.2.2.2, q_R0) r h2) : q_Ex none 3 105 [(0, .ref 3), (1, .int s.1), (2, .int s.2.1), (3, .int s.2.2.1), (4, .int s.2.2.2.1), (6, .int s.2.2.2.2.1), (7, .int s.2.2.2.2.2.1)] [] (q_K0, s.2.2.2.2.2.2.1, s.2.2.2.2.2.2.2, q_R0) r h2 := by
  unfold B_X0_listLeast_105 at h
  obtain ⟨l1, l2, l3, l4, l6, l7, z⟩ := s
  dsimp only at h
  show q_Ex none 3 105 [(0, .ref 3), (1, .int l1), (2, .int l2), (3, .int l3), (4, .int l4), (6, .int l6), (7, .int l7)] [] (q_K0, z.1, z.2, q_R0) r h2
  refine q_blk2 (pc2 := 109) (ls2 := [(0, .ref 3), (1, .int l1), (2, .int l2), (3, .int l3), (4, .int l4), (6, .int l6), (7, .int l7)]) (st2 := [.int l6, .int l7]) (h2 := (q_K0, z.1, z.2, q_R0)) [(.iload 7, 0, 0, 0, 0, 0), (.iload 6, 0, 0, 0, 0, 0)] (by decide +kernel) rfl rfl ⟨trivial, trivial, trivial⟩ ?_
  refine q_ic_gt (off := 47) (tgt := 156) (by decide +kernel) (by decide) (fun c109_1 => ?_) (fun c109_1 => ?_)
  · rw [if_pos c109_1] at h
    cases h
    refine q_pick [0, 1, 2, 3, 4, 5, 6] rfl ?_
    exact k1 rfl
  · rw [if_neg c109_1] at h
    refine q_blk2 (pc2 := 126) (ls2 := [(0, .ref 3), (1, .int l1), (2, .int l2), (3, .int l3), (4, .int l4), (6, .int l6), (7, .int l7)]) (st2 := [.ref 10, .long (Int32.toInt64 l7), .long (Int32.toInt64 l4), .ref 4]) (h2 := (q_K0, z.1, z.2, q_R0)) [(.aload_n 0, 0, 0, 0, 0, 0), (.getfield 12, 0, 0, 0, 0, 0), (.iload 4, 0, 0, 0, 0, 0), (.i2l, 0, 0, 0, 0, 0), (.iload 7, 0, 0, 0, 0, 0), (.i2l, 0, 0, 0, 0, 0), (.aload_n 0, 0, 0, 0, 0, 0), (.getfield 37, 0, 0, 6, 0, 0)] (by decide +kernel) rfl rfl ⟨trivial, rfl, trivial, trivial, trivial, trivial, trivial, rfl, trivial⟩ ?_
    obtain ⟨⟨r3, z4⟩, hc9, h⟩ := Option.bind_eq_some_iff.mp h
    dsimp only at h
    refine q_cV1 (idx := 81) (v := .int r3) (h1 := (q_K0, z4.1, z4.2, q_R0)) [.ref 10, .long (Int32.toInt64 l7), .long (Int32.toInt64 l4), .ref 4] 19 4 2 [.long (Int32.toInt64 l4), .long (Int32.toInt64 l7), .ref 10] [] rfl (by decide +kernel) (by decide +kernel) rfl (Nat.le_of_ble_eq_true rfl) rfl (by decide) (by decide +kernel) (by decide +kernel) (s_X2_complete rfl hc9) ?_
    refine q_if_eq (off := 21) (tgt := 150) (by decide +kernel) (by decide) (fun c129_2 => ?_) (fun c129_2 => ?_)
    · rw [if_pos c129_2] at h
      refine q_pick [0, 1, 2, 3, 4, 5, 6] rfl ?_
      exact t_X0_listLeast_150 h k0 k1
    · rw [if_neg c129_2] at h
      refine q_blk2 (pc2 := 140) (ls2 := [(0, .ref 3), (1, .int l1), (2, .int l2), (3, .int l3), (4, .int l4), (6, .int l6), (7, .int l7)]) (st2 := [.ref 10, .ref 4]) (h2 := (q_K0, z4.1, z4.2, q_R0)) [(.aload_n 0, 0, 0, 0, 0, 0), (.getfield 12, 0, 0, 0, 0, 0), (.aload_n 0, 0, 0, 0, 0, 0), (.getfield 37, 0, 0, 6, 0, 0)] (by decide +kernel) rfl rfl ⟨trivial, rfl, trivial, rfl, trivial⟩ ?_
      obtain ⟨⟨r5, z6⟩, hc10, h⟩ := Option.bind_eq_some_iff.mp h
      dsimp only at h
      refine q_cV1 (idx := 85) (v := .int r5) (h1 := (q_K0, z6.1, z6.2, q_R0)) [.ref 10, .ref 4] 20 4 2 [.ref 10] [] rfl (by decide +kernel) (by decide +kernel) rfl (Nat.le_of_ble_eq_true rfl) rfl (by decide) (by decide +kernel) (by decide +kernel) (s_X2_isLeast rfl hc10) ?_
      refine q_if_eq (off := 7) (tgt := 150) (by decide +kernel) (by decide) (fun c143_3 => ?_) (fun c143_3 => ?_)
      · rw [if_pos c143_3] at h
        refine q_pick [0, 1, 2, 3, 4, 5, 6] rfl ?_
        exact t_X0_listLeast_150 h k0 k1
      · rw [if_neg c143_3] at h
        refine q_blk2 (pc2 := 147) (ls2 := [(0, .ref 3), (1, .int l1), (2, .int l2), (3, .int l3), (4, .int l4), (6, .int l6), (7, .int l7)]) (st2 := [.ref 3]) (h2 := (q_K0, z6.1, z6.2, q_R0)) [(.aload_n 0, 0, 0, 0, 0, 0)] (by decide +kernel) rfl rfl ⟨trivial, trivial⟩ ?_
        obtain ⟨⟨_, z8⟩, hc11, h⟩ := Option.bind_eq_some_iff.mp h
        dsimp only at h
        refine q_cV0 (idx := 89) (h1 := (q_K0, z8.1, z8.2, q_R0)) [.ref 3] 4 3 0 [] [] rfl (by decide +kernel) (by decide +kernel) rfl (Nat.le_of_ble_eq_true rfl) rfl (by decide) (by decide +kernel) (by decide +kernel) (s_X0_listWalker hc11) ?_
        refine q_pick [0, 1, 2, 3, 4, 5, 6] rfl ?_
        exact t_X0_listLeast_150 h k0 k1
def T_X0_listLeast_92 (z : q_Z) (l1 : Int32) (l2 : Int32) (l3 : Int32) (l4 : Int32) (l5 : Int32) (t0 : Int32) : Option ((Int32 × Int32 × Int32 × Int32 × q_Z) × Nat) :=
  (q_lp (B_X0_listLeast_105) q_fu (l1, l2, l3, l4, t0, l5 + ((l5 - l1) &&& 1), z)).bind fun ((w13, w14, w15, w16, w17, w18, z12), tg) =>
    if tg = 0 then
      some ((w13, w14, w15, w16 + 1, z12), 0)
    else none
set_option maxRecDepth 100000 in
set_option maxHeartbeats 4000000 in
theorem t_X0_listLeast_92 {z : q_Z} {l1 : Int32} {l2 : Int32} {l3 : Int32} {l4 : Int32} {l5 : Int32} {t0 : Int32} {s2 : Int32 × Int32 × Int32 × Int32 × q_Z} {t : Nat} {r : Option Value} {h2 : q_H} (h : T_X0_listLeast_92 z l1 l2 l3 l4 l5 t0 = some (s2, t)) (k0 : t = 0 → q_Ex none 3 42 [(0, .ref 3), (1, .int s2.1), (2, .int s2.2.1), (3, .int s2.2.2.1), (4, .int s2.2.2.2.1)] [] (q_K0, s2.2.2.2.2.1, s2.2.2.2.2.2, q_R0) r h2) (k1 : t = 1 → q_Ex none 3 162 [(0, .ref 3), (1, .int s2.1), (2, .int s2.2.1), (3, .int s2.2.2.1), (4, .int s2.2.2.2.1)] [] (q_K0, s2.2.2.2.2.1, s2.2.2.2.2.2, q_R0) r h2) : q_Ex none 3 92 [(0, .ref 3), (1, .int l1), (2, .int l2), (3, .int l3), (4, .int l4), (5, .int l5)] [.int t0] (q_K0, z.1, z.2, q_R0) r h2 := by
  unfold T_X0_listLeast_92 at h
  refine q_blk2 (pc2 := 105) (ls2 := [(7, .int (l5 + ((l5 - l1) &&& 1))), (6, .int t0), (0, .ref 3), (1, .int l1), (2, .int l2), (3, .int l3), (4, .int l4), (5, .int l5)]) (st2 := []) (h2 := (q_K0, z.1, z.2, q_R0)) [(.istore 6, 0, 0, 0, 0, 0), (.iload 5, 0, 0, 0, 0, 0), (.iload 5, 0, 0, 0, 0, 0), (.iload_n 1, 0, 0, 0, 0, 0), (.isub, 0, 0, 0, 0, 0), (.iconst 1, 0, 0, 0, 1, 0), (.iand, 0, 0, 0, 0, 0), (.iadd, 0, 0, 0, 0, 0), (.istore 7, 0, 0, 0, 0, 0)] (by decide +kernel) rfl rfl ⟨trivial, trivial, trivial, trivial, trivial, trivial, trivial, trivial, trivial, trivial⟩ ?_
  obtain ⟨⟨⟨w13, w14, w15, w16, w17, w18, z12⟩, tg20⟩, hl19, h⟩ := Option.bind_eq_some_iff.mp h
  dsimp only at h
  refine q_pick [2, 3, 4, 5, 6, 1, 0] rfl ?_
  refine q_lp_ok (P := fun s => q_Ex _ 3 105 [(0, .ref 3), (1, .int s.1), (2, .int s.2.1), (3, .int s.2.2.1), (4, .int s.2.2.2.1), (6, .int s.2.2.2.2.1), (7, .int s.2.2.2.2.2.1)] [] (q_K0, s.2.2.2.2.2.2.1, s.2.2.2.2.2.2.2, q_R0) _ _) (X := fun u s => (u = 0 → q_Ex _ 3 156 [(0, .ref 3), (1, .int s.1), (2, .int s.2.1), (3, .int s.2.2.1), (4, .int s.2.2.2.1), (6, .int s.2.2.2.2.1), (7, .int s.2.2.2.2.2.1)] [] (q_K0, s.2.2.2.2.2.2.1, s.2.2.2.2.2.2.2, q_R0) _ _)) (fun s s2 t hh k0 kx => b_X0_listLeast_105 hh k0 (fun e => (kx 0 e) rfl)) hl19 ?_
  · intro e_tg20
    subst e_tg20
    rw [if_pos rfl] at h
    show q_Ex _ 3 156 [(0, .ref 3), (1, .int w13), (2, .int w14), (3, .int w15), (4, .int w16), (6, .int w17), (7, .int w18)] [] (q_K0, z12.1, z12.2, q_R0) _ _
    refine q_blk2 (pc2 := 159) (ls2 := [(4, .int (w16 + 1)), (0, .ref 3), (1, .int w13), (2, .int w14), (3, .int w15), (6, .int w17), (7, .int w18)]) (st2 := []) (h2 := (q_K0, z12.1, z12.2, q_R0)) [(.iinc 4 1, 0, 0, 0, 1, 0)] (by decide +kernel) rfl rfl ⟨trivial, trivial⟩ ?_
    refine q_goto (off := -117) (tgt := 42) (by decide +kernel) (by decide) ?_
    cases h
    refine q_pick [1, 2, 3, 4, 0] rfl ?_
    exact k0 rfl
def T_X0_listLeast_80 (z : q_Z) (l1 : Int32) (l2 : Int32) (l3 : Int32) (l4 : Int32) (t0 : Int32) : Option ((Int32 × Int32 × Int32 × Int32 × q_Z) × Nat) :=
  if l1 ≤ (0 : Int32) then
    T_X0_listLeast_92 z l1 l2 l3 l4 t0 l4
  else
    T_X0_listLeast_92 z l1 l2 l3 l4 t0 l2
set_option maxRecDepth 100000 in
set_option maxHeartbeats 4000000 in
theorem t_X0_listLeast_80 {z : q_Z} {l1 : Int32} {l2 : Int32} {l3 : Int32} {l4 : Int32} {t0 : Int32} {s2 : Int32 × Int32 × Int32 × Int32 × q_Z} {t : Nat} {r : Option Value} {h2 : q_H} (h : T_X0_listLeast_80 z l1 l2 l3 l4 t0 = some (s2, t)) (k0 : t = 0 → q_Ex none 3 42 [(0, .ref 3), (1, .int s2.1), (2, .int s2.2.1), (3, .int s2.2.2.1), (4, .int s2.2.2.2.1)] [] (q_K0, s2.2.2.2.2.1, s2.2.2.2.2.2, q_R0) r h2) (k1 : t = 1 → q_Ex none 3 162 [(0, .ref 3), (1, .int s2.1), (2, .int s2.2.1), (3, .int s2.2.2.1), (4, .int s2.2.2.2.1)] [] (q_K0, s2.2.2.2.2.1, s2.2.2.2.2.2, q_R0) r h2) : q_Ex none 3 80 [(0, .ref 3), (1, .int l1), (2, .int l2), (3, .int l3), (4, .int l4)] [.int t0] (q_K0, z.1, z.2, q_R0) r h2 := by
  unfold T_X0_listLeast_80 at h
  refine q_blk2 (pc2 := 83) (ls2 := [(5, .int t0), (0, .ref 3), (1, .int l1), (2, .int l2), (3, .int l3), (4, .int l4)]) (st2 := [.int l1]) (h2 := (q_K0, z.1, z.2, q_R0)) [(.istore 5, 0, 0, 0, 0, 0), (.iload_n 1, 0, 0, 0, 0, 0)] (by decide +kernel) rfl rfl ⟨trivial, trivial, trivial⟩ ?_
  refine q_if_le (off := 7) (tgt := 90) (by decide +kernel) (by decide) (fun c83_1 => ?_) (fun c83_1 => ?_)
  · rw [if_pos c83_1] at h
    refine q_blk2 (pc2 := 92) (ls2 := [(5, .int t0), (0, .ref 3), (1, .int l1), (2, .int l2), (3, .int l3), (4, .int l4)]) (st2 := [.int l4]) (h2 := (q_K0, z.1, z.2, q_R0)) [(.iload 4, 0, 0, 0, 0, 0)] (by decide +kernel) rfl rfl ⟨trivial, trivial⟩ ?_
    refine q_pick [1, 2, 3, 4, 5, 0] rfl ?_
    exact t_X0_listLeast_92 h k0 k1
  · rw [if_neg c83_1] at h
    refine q_blk2 (pc2 := 87) (ls2 := [(5, .int t0), (0, .ref 3), (1, .int l1), (2, .int l2), (3, .int l3), (4, .int l4)]) (st2 := [.int l2]) (h2 := (q_K0, z.1, z.2, q_R0)) [(.iload_n 2, 0, 0, 0, 0, 0)] (by decide +kernel) rfl rfl ⟨trivial, trivial⟩ ?_
    refine q_goto (off := 5) (tgt := 92) (by decide +kernel) (by decide) ?_
    refine q_pick [1, 2, 3, 4, 5, 0] rfl ?_
    exact t_X0_listLeast_92 h k0 k1
def B_X0_listLeast_42 : Int32 × Int32 × Int32 × Int32 × q_Z → Option ((Int32 × Int32 × Int32 × Int32 × q_Z) × Nat) := fun (l1, l2, l3, l4, z) =>
  if l3 < l4 then
    some ((l1, l2, l3, l4, z), 1)
  else
    if l1 ≤ (0 : Int32) then
      T_X0_listLeast_80 z l1 l2 l3 l4 (1 - l4)
    else
      (F_J9_max_7cf53 z ((l2 - (2 * l4)) + 1) ((2 * l4) - l2)).bind fun (r21, z22) =>
        (F_J9_max_7cf53 z22 1 r21).bind fun (r23, z24) =>
          T_X0_listLeast_80 z24 l1 l2 l3 l4 r23
set_option maxRecDepth 100000 in
set_option maxHeartbeats 4000000 in
theorem b_X0_listLeast_42 {s s2 : Int32 × Int32 × Int32 × Int32 × q_Z} {t : Nat} {r : Option Value} {h2 : q_H} (h : B_X0_listLeast_42 s = some (s2, t)) (k0 : t = 0 → q_Ex none 3 42 [(0, .ref 3), (1, .int s2.1), (2, .int s2.2.1), (3, .int s2.2.2.1), (4, .int s2.2.2.2.1)] [] (q_K0, s2.2.2.2.2.1, s2.2.2.2.2.2, q_R0) r h2) (k1 : t = 1 → q_Ex none 3 162 [(0, .ref 3), (1, .int s2.1), (2, .int s2.2.1), (3, .int s2.2.2.1), (4, .int s2.2.2.2.1)] [] (q_K0, s2.2.2.2.2.1, s2.2.2.2.2.2, q_R0) r h2) : q_Ex none 3 42 [(0, .ref 3), (1, .int s.1), (2, .int s.2.1), (3, .int s.2.2.1), (4, .int s.2.2.2.1)] [] (q_K0, s.2.2.2.2.1, s.2.2.2.2.2, q_R0) r h2 := by
  unfold B_X0_listLeast_42 at h
  obtain ⟨l1, l2, l3, l4, z⟩ := s
  dsimp only at h
  show q_Ex none 3 42 [(0, .ref 3), (1, .int l1), (2, .int l2), (3, .int l3), (4, .int l4)] [] (q_K0, z.1, z.2, q_R0) r h2
  refine q_blk2 (pc2 := 45) (ls2 := [(0, .ref 3), (1, .int l1), (2, .int l2), (3, .int l3), (4, .int l4)]) (st2 := [.int l3, .int l4]) (h2 := (q_K0, z.1, z.2, q_R0)) [(.iload 4, 0, 0, 0, 0, 0), (.iload_n 3, 0, 0, 0, 0, 0)] (by decide +kernel) rfl rfl ⟨trivial, trivial, trivial⟩ ?_
  refine q_ic_gt (off := 117) (tgt := 162) (by decide +kernel) (by decide) (fun c45_1 => ?_) (fun c45_1 => ?_)
  · rw [if_pos c45_1] at h
    cases h
    refine q_pick [0, 1, 2, 3, 4] rfl ?_
    exact k1 rfl
  · rw [if_neg c45_1] at h
    refine q_blk2 (pc2 := 49) (ls2 := [(0, .ref 3), (1, .int l1), (2, .int l2), (3, .int l3), (4, .int l4)]) (st2 := [.int l1]) (h2 := (q_K0, z.1, z.2, q_R0)) [(.iload_n 1, 0, 0, 0, 0, 0)] (by decide +kernel) rfl rfl ⟨trivial, trivial⟩ ?_
    refine q_if_le (off := 27) (tgt := 76) (by decide +kernel) (by decide) (fun c49_2 => ?_) (fun c49_2 => ?_)
    · rw [if_pos c49_2] at h
      refine q_blk2 (pc2 := 80) (ls2 := [(0, .ref 3), (1, .int l1), (2, .int l2), (3, .int l3), (4, .int l4)]) (st2 := [.int (1 - l4)]) (h2 := (q_K0, z.1, z.2, q_R0)) [(.iconst 1, 0, 0, 0, 1, 0), (.iload 4, 0, 0, 0, 0, 0), (.isub, 0, 0, 0, 0, 0)] (by decide +kernel) rfl rfl ⟨trivial, trivial, trivial, trivial⟩ ?_
      refine q_pick [0, 1, 2, 3, 4] rfl ?_
      exact t_X0_listLeast_80 h k0 k1
    · rw [if_neg c49_2] at h
      refine q_blk2 (pc2 := 67) (ls2 := [(0, .ref 3), (1, .int l1), (2, .int l2), (3, .int l3), (4, .int l4)]) (st2 := [.int ((2 * l4) - l2), .int ((l2 - (2 * l4)) + 1), .int 1]) (h2 := (q_K0, z.1, z.2, q_R0)) [(.iconst 1, 0, 0, 0, 1, 0), (.iload_n 2, 0, 0, 0, 0, 0), (.iconst 2, 0, 0, 0, 2, 0), (.iload 4, 0, 0, 0, 0, 0), (.imul, 0, 0, 0, 0, 0), (.isub, 0, 0, 0, 0, 0), (.iconst 1, 0, 0, 0, 1, 0), (.iadd, 0, 0, 0, 0, 0), (.iconst 2, 0, 0, 0, 2, 0), (.iload 4, 0, 0, 0, 0, 0), (.imul, 0, 0, 0, 0, 0), (.iload_n 2, 0, 0, 0, 0, 0), (.isub, 0, 0, 0, 0, 0)] (by decide +kernel) rfl rfl ⟨trivial, trivial, trivial, trivial, trivial, trivial, trivial, trivial, trivial, trivial, trivial, trivial, trivial, trivial⟩ ?_
      obtain ⟨⟨r21, z22⟩, hc25, h⟩ := Option.bind_eq_some_iff.mp h
      dsimp only at h
      refine q_cS1 (idx := 75) (v := .int r21) (h1 := (q_K0, z22.1, z22.2, q_R0)) [.int ((2 * l4) - l2), .int ((l2 - (2 * l4)) + 1), .int 1] 161 [.int ((l2 - (2 * l4)) + 1), .int ((2 * l4) - l2)] [.int 1] rfl (by decide +kernel) (by decide +kernel) rfl (Nat.le_of_ble_eq_true rfl) (by decide +kernel) (s_J9_max_7cf53 hc25) ?_
      obtain ⟨⟨r23, z24⟩, hc26, h⟩ := Option.bind_eq_some_iff.mp h
      dsimp only at h
      refine q_cS1 (idx := 75) (v := .int r23) (h1 := (q_K0, z24.1, z24.2, q_R0)) [.int r21, .int 1] 161 [.int 1, .int r21] [] rfl (by decide +kernel) (by decide +kernel) rfl (Nat.le_of_ble_eq_true rfl) (by decide +kernel) (s_J9_max_7cf53 hc26) ?_
      refine q_goto (off := 7) (tgt := 80) (by decide +kernel) (by decide) ?_
      refine q_pick [0, 1, 2, 3, 4] rfl ?_
      exact t_X0_listLeast_80 h k0 k1
def T_X0_listLeast_38 (z : q_Z) (l1 : Int32) (l2 : Int32) (t0 : Int32) : Option (Unit × q_Z) :=
  (q_lp (B_X0_listLeast_42) q_fu (l1, l2, t0, 1, z)).bind fun ((w28, w29, w30, w31, z27), tg) =>
    if tg = 0 then
      some ((), z27)
    else none
set_option maxRecDepth 100000 in
set_option maxHeartbeats 4000000 in
theorem t_X0_listLeast_38 {z zR : q_Z} {l1 : Int32} {l2 : Int32} {t0 : Int32} {rv : Unit} (h : T_X0_listLeast_38 z l1 l2 t0 = some (rv, zR)) : q_Ex none 3 38 [(0, .ref 3), (1, .int l1), (2, .int l2)] [.int t0] (q_K0, z.1, z.2, q_R0) none (q_K0, zR.1, zR.2, q_R0) := by
  unfold T_X0_listLeast_38 at h
  refine q_blk2 (pc2 := 42) (ls2 := [(4, .int 1), (3, .int t0), (0, .ref 3), (1, .int l1), (2, .int l2)]) (st2 := []) (h2 := (q_K0, z.1, z.2, q_R0)) [(.istore_n 3, 0, 0, 0, 0, 0), (.iconst 1, 0, 0, 0, 1, 0), (.istore 4, 0, 0, 0, 0, 0)] (by decide +kernel) rfl rfl ⟨trivial, trivial, trivial, trivial⟩ ?_
  obtain ⟨⟨⟨w28, w29, w30, w31, z27⟩, tg33⟩, hl32, h⟩ := Option.bind_eq_some_iff.mp h
  dsimp only at h
  refine q_pick [2, 3, 4, 1, 0] rfl ?_
  refine q_lp_ok (P := fun s => q_Ex _ 3 42 [(0, .ref 3), (1, .int s.1), (2, .int s.2.1), (3, .int s.2.2.1), (4, .int s.2.2.2.1)] [] (q_K0, s.2.2.2.2.1, s.2.2.2.2.2, q_R0) _ _) (X := fun u s => (u = 0 → q_Ex _ 3 162 [(0, .ref 3), (1, .int s.1), (2, .int s.2.1), (3, .int s.2.2.1), (4, .int s.2.2.2.1)] [] (q_K0, s.2.2.2.2.1, s.2.2.2.2.2, q_R0) _ _)) (fun s s2 t hh k0 kx => b_X0_listLeast_42 hh k0 (fun e => (kx 0 e) rfl)) hl32 ?_
  · intro e_tg33
    subst e_tg33
    rw [if_pos rfl] at h
    show q_Ex _ 3 162 [(0, .ref 3), (1, .int w28), (2, .int w29), (3, .int w30), (4, .int w31)] [] (q_K0, z27.1, z27.2, q_R0) _ _
    cases h
    exact q_vret rfl (by decide +kernel)
/-- RootForms$ClassTable.listLeast()V -/
def F_X0_listLeast (z : q_Z) : Option (Unit × q_Z) :=
  if (z.1 4 0) ≤ (0 : Int32) then
    (F_X7_rootOf (q_u2 z.1 3 9 0, z.2) (Int32.toInt64 ((-(z.1 4 0)) / 3))).bind fun (r1, z2) =>
      T_X0_listLeast_38 z2 (z.1 4 0) (z.1 4 1) (Int64.toInt32 r1)
  else
    T_X0_listLeast_38 (q_u2 z.1 3 9 0, z.2) (z.1 4 0) (z.1 4 1) (z.1 4 1)
set_option maxRecDepth 100000 in
set_option maxHeartbeats 4000000 in
theorem s_X0_listLeast {z zR : q_Z} {rv : Unit} (h : F_X0_listLeast z = some (rv, zR)) : q_Ca 3 [.ref 3] (q_K0, z.1, z.2, q_R0) none (q_K0, zR.1, zR.2, q_R0) := by
  refine q_Ca_of (by decide) (Nat.le_of_ble_eq_true rfl) ?_
  show q_Ex none 3 0 [(0, .ref 3)] [] (q_K0, z.1, z.2, q_R0) _ _
  unfold F_X0_listLeast at h
  refine q_blk2 (pc2 := 22) (ls2 := [(2, .int (z.1 4 1)), (1, .int (z.1 4 0)), (0, .ref 3)]) (st2 := [.int (z.1 4 0)]) (h2 := (q_K0, q_u2 z.1 3 9 0, z.2, q_R0)) [(.aload_n 0, 0, 0, 0, 0, 0), (.iconst 0, 0, 0, 0, 0, 0), (.putfield 63, 0, 0, 9, 0, 0), (.aload_n 0, 0, 0, 0, 0, 0), (.getfield 12, 0, 0, 0, 0, 0), (.getfield 54, 0, 2, 0, 0, 0), (.istore_n 1, 0, 0, 0, 0, 0), (.aload_n 0, 0, 0, 0, 0, 0), (.getfield 12, 0, 0, 0, 0, 0), (.getfield 66, 0, 2, 1, 0, 0), (.istore_n 2, 0, 0, 0, 0, 0), (.iload_n 1, 0, 0, 0, 0, 0)] (by decide +kernel) rfl rfl ⟨trivial, trivial, ⟨rfl, rfl, rfl⟩, trivial, rfl, rfl, trivial, trivial, rfl, rfl, trivial, trivial, trivial⟩ ?_
  refine q_if_le (off := 7) (tgt := 29) (by decide +kernel) (by decide) (fun c22_1 => ?_) (fun c22_1 => ?_)
  · rw [if_pos c22_1] at h
    refine q_blk2 (pc2 := 34) (ls2 := [(2, .int (z.1 4 1)), (1, .int (z.1 4 0)), (0, .ref 3)]) (st2 := [.long (Int32.toInt64 ((-(z.1 4 0)) / 3))]) (h2 := (q_K0, q_u2 z.1 3 9 0, z.2, q_R0)) [(.iload_n 1, 0, 0, 0, 0, 0), (.ineg, 0, 0, 0, 0, 0), (.iconst 3, 0, 0, 0, 3, 0), (.idiv, 0, 0, 0, 0, 0), (.i2l, 0, 0, 0, 0, 0)] (by decide +kernel) rfl rfl ⟨trivial, trivial, trivial, (by decide), trivial, trivial⟩ ?_
    obtain ⟨⟨r1, z2⟩, hc34, h⟩ := Option.bind_eq_some_iff.mp h
    dsimp only at h
    refine q_cS1 (idx := 69) (v := .long r1) (h1 := (q_K0, z2.1, z2.2, q_R0)) [.long (Int32.toInt64 ((-(z.1 4 0)) / 3))] 48 [.long (Int32.toInt64 ((-(z.1 4 0)) / 3))] [] rfl (by decide +kernel) (by decide +kernel) rfl (Nat.le_of_ble_eq_true rfl) (by decide +kernel) (s_X7_rootOf hc34) ?_
    refine q_blk2 (pc2 := 38) (ls2 := [(2, .int (z.1 4 1)), (1, .int (z.1 4 0)), (0, .ref 3)]) (st2 := [.int (Int64.toInt32 r1)]) (h2 := (q_K0, z2.1, z2.2, q_R0)) [(.l2i, 0, 0, 0, 0, 0)] (by decide +kernel) rfl rfl ⟨trivial, trivial⟩ ?_
    refine q_pick [2, 1, 0] rfl ?_
    exact t_X0_listLeast_38 h
  · rw [if_neg c22_1] at h
    refine q_blk2 (pc2 := 26) (ls2 := [(2, .int (z.1 4 1)), (1, .int (z.1 4 0)), (0, .ref 3)]) (st2 := [.int (z.1 4 1)]) (h2 := (q_K0, q_u2 z.1 3 9 0, z.2, q_R0)) [(.iload_n 2, 0, 0, 0, 0, 0)] (by decide +kernel) rfl rfl ⟨trivial, trivial⟩ ?_
    refine q_goto (off := 12) (tgt := 38) (by decide +kernel) (by decide) ?_
    refine q_pick [2, 1, 0] rfl ?_
    exact t_X0_listLeast_38 h
def T_X0_indexOf_142 (z : q_Z) (l1 : Int64) (l3 : Int64) (l5 : Int32) (l6 : Int32) (l7 : Int32) : Option ((Int64 × Int64 × Int32 × Int32 × Int32 × Int32 × q_Z) × Nat) :=
  some ((l1, l3, l5, l6, l7 + 1, 0, z), 0)
set_option maxRecDepth 100000 in
set_option maxHeartbeats 4000000 in
theorem t_X0_indexOf_142 {z : q_Z} {l1 : Int64} {l3 : Int64} {l5 : Int32} {l6 : Int32} {l7 : Int32} {s2 : Int64 × Int64 × Int32 × Int32 × Int32 × Int32 × q_Z} {t : Nat} {r : Option Value} {h2 : q_H} (h : T_X0_indexOf_142 z l1 l3 l5 l6 l7 = some (s2, t)) (k0 : t = 0 → q_Ex none 7 20 [(0, .ref 3), (1, .long s2.1), (3, .long s2.2.1), (5, .int s2.2.2.1), (6, .int s2.2.2.2.1), (7, .int s2.2.2.2.2.1)] [] (q_K0, s2.2.2.2.2.2.2.1, s2.2.2.2.2.2.2.2, q_R0) r h2) (k1 : t = 1 → q_Ex none 7 57 [(0, .ref 3), (1, .long s2.1), (3, .long s2.2.1), (5, .int s2.2.2.1), (6, .int s2.2.2.2.1), (7, .int s2.2.2.2.2.1)] [] (q_K0, s2.2.2.2.2.2.2.1, s2.2.2.2.2.2.2.2, q_R0) r h2) (k2 : t = 2 → q_Ex none 7 85 [(0, .ref 3), (1, .long s2.1), (3, .long s2.2.1), (5, .int s2.2.2.1), (6, .int s2.2.2.2.1), (7, .int s2.2.2.2.2.1), (8, .int s2.2.2.2.2.2.1)] [] (q_K0, s2.2.2.2.2.2.2.1, s2.2.2.2.2.2.2.2, q_R0) r h2) (k3 : t = 3 → q_Ex none 7 148 [(0, .ref 3), (1, .long s2.1), (3, .long s2.2.1), (5, .int s2.2.2.1), (6, .int s2.2.2.2.1), (7, .int s2.2.2.2.2.1)] [] (q_K0, s2.2.2.2.2.2.2.1, s2.2.2.2.2.2.2.2, q_R0) r h2) : q_Ex none 7 142 [(0, .ref 3), (1, .long l1), (3, .long l3), (5, .int l5), (6, .int l6), (7, .int l7)] [] (q_K0, z.1, z.2, q_R0) r h2 := by
  unfold T_X0_indexOf_142 at h
  refine q_blk2 (pc2 := 145) (ls2 := [(7, .int (l7 + 1)), (0, .ref 3), (1, .long l1), (3, .long l3), (5, .int l5), (6, .int l6)]) (st2 := []) (h2 := (q_K0, z.1, z.2, q_R0)) [(.iinc 7 1, 0, 0, 0, 1, 0)] (by decide +kernel) rfl rfl ⟨trivial, trivial⟩ ?_
  refine q_goto (off := -125) (tgt := 20) (by decide +kernel) (by decide) ?_
  cases h
  refine q_pick [1, 2, 3, 4, 5, 0] rfl ?_
  exact k0 rfl
def T_X0_indexOf_127 (z : q_Z) (l1 : Int64) (l3 : Int64) (l6 : Int32) (l7 : Int32) (l8 : Int32) : Option ((Int64 × Int64 × Int32 × Int32 × Int32 × Int32 × q_Z) × Nat) :=
  T_X0_indexOf_142 z l1 l3 (l8 + 1) l6 l7
set_option maxRecDepth 100000 in
set_option maxHeartbeats 4000000 in
theorem t_X0_indexOf_127 {z : q_Z} {l1 : Int64} {l3 : Int64} {l6 : Int32} {l7 : Int32} {l8 : Int32} {s2 : Int64 × Int64 × Int32 × Int32 × Int32 × Int32 × q_Z} {t : Nat} {r : Option Value} {h2 : q_H} (h : T_X0_indexOf_127 z l1 l3 l6 l7 l8 = some (s2, t)) (k0 : t = 0 → q_Ex none 7 20 [(0, .ref 3), (1, .long s2.1), (3, .long s2.2.1), (5, .int s2.2.2.1), (6, .int s2.2.2.2.1), (7, .int s2.2.2.2.2.1)] [] (q_K0, s2.2.2.2.2.2.2.1, s2.2.2.2.2.2.2.2, q_R0) r h2) (k1 : t = 1 → q_Ex none 7 57 [(0, .ref 3), (1, .long s2.1), (3, .long s2.2.1), (5, .int s2.2.2.1), (6, .int s2.2.2.2.1), (7, .int s2.2.2.2.2.1)] [] (q_K0, s2.2.2.2.2.2.2.1, s2.2.2.2.2.2.2.2, q_R0) r h2) (k2 : t = 2 → q_Ex none 7 85 [(0, .ref 3), (1, .long s2.1), (3, .long s2.2.1), (5, .int s2.2.2.1), (6, .int s2.2.2.2.1), (7, .int s2.2.2.2.2.1), (8, .int s2.2.2.2.2.2.1)] [] (q_K0, s2.2.2.2.2.2.2.1, s2.2.2.2.2.2.2.2, q_R0) r h2) (k3 : t = 3 → q_Ex none 7 148 [(0, .ref 3), (1, .long s2.1), (3, .long s2.2.1), (5, .int s2.2.2.1), (6, .int s2.2.2.2.1), (7, .int s2.2.2.2.2.1)] [] (q_K0, s2.2.2.2.2.2.2.1, s2.2.2.2.2.2.2.2, q_R0) r h2) : q_Ex none 7 127 [(0, .ref 3), (1, .long l1), (3, .long l3), (6, .int l6), (7, .int l7), (8, .int l8)] [] (q_K0, z.1, z.2, q_R0) r h2 := by
  unfold T_X0_indexOf_127 at h
  refine q_blk2 (pc2 := 133) (ls2 := [(5, .int (l8 + 1)), (0, .ref 3), (1, .long l1), (3, .long l3), (6, .int l6), (7, .int l7), (8, .int l8)]) (st2 := []) (h2 := (q_K0, z.1, z.2, q_R0)) [(.iload 8, 0, 0, 0, 0, 0), (.iconst 1, 0, 0, 0, 1, 0), (.iadd, 0, 0, 0, 0, 0), (.istore 5, 0, 0, 0, 0, 0)] (by decide +kernel) rfl rfl ⟨trivial, trivial, trivial, trivial, trivial⟩ ?_
  refine q_goto (off := 9) (tgt := 142) (by decide +kernel) (by decide) ?_
  refine q_pick [1, 2, 3, 0, 4, 5] rfl ?_
  exact t_X0_indexOf_142 h k0 k1 k2 k3
def T_X0_indexOf_136 (z : q_Z) (l1 : Int64) (l3 : Int64) (l5 : Int32) (l7 : Int32) (l8 : Int32) : Option ((Int64 × Int64 × Int32 × Int32 × Int32 × Int32 × q_Z) × Nat) :=
  T_X0_indexOf_142 z l1 l3 l5 (l8 - 1) l7
set_option maxRecDepth 100000 in
set_option maxHeartbeats 4000000 in
theorem t_X0_indexOf_136 {z : q_Z} {l1 : Int64} {l3 : Int64} {l5 : Int32} {l7 : Int32} {l8 : Int32} {s2 : Int64 × Int64 × Int32 × Int32 × Int32 × Int32 × q_Z} {t : Nat} {r : Option Value} {h2 : q_H} (h : T_X0_indexOf_136 z l1 l3 l5 l7 l8 = some (s2, t)) (k0 : t = 0 → q_Ex none 7 20 [(0, .ref 3), (1, .long s2.1), (3, .long s2.2.1), (5, .int s2.2.2.1), (6, .int s2.2.2.2.1), (7, .int s2.2.2.2.2.1)] [] (q_K0, s2.2.2.2.2.2.2.1, s2.2.2.2.2.2.2.2, q_R0) r h2) (k1 : t = 1 → q_Ex none 7 57 [(0, .ref 3), (1, .long s2.1), (3, .long s2.2.1), (5, .int s2.2.2.1), (6, .int s2.2.2.2.1), (7, .int s2.2.2.2.2.1)] [] (q_K0, s2.2.2.2.2.2.2.1, s2.2.2.2.2.2.2.2, q_R0) r h2) (k2 : t = 2 → q_Ex none 7 85 [(0, .ref 3), (1, .long s2.1), (3, .long s2.2.1), (5, .int s2.2.2.1), (6, .int s2.2.2.2.1), (7, .int s2.2.2.2.2.1), (8, .int s2.2.2.2.2.2.1)] [] (q_K0, s2.2.2.2.2.2.2.1, s2.2.2.2.2.2.2.2, q_R0) r h2) (k3 : t = 3 → q_Ex none 7 148 [(0, .ref 3), (1, .long s2.1), (3, .long s2.2.1), (5, .int s2.2.2.1), (6, .int s2.2.2.2.1), (7, .int s2.2.2.2.2.1)] [] (q_K0, s2.2.2.2.2.2.2.1, s2.2.2.2.2.2.2.2, q_R0) r h2) : q_Ex none 7 136 [(0, .ref 3), (1, .long l1), (3, .long l3), (5, .int l5), (7, .int l7), (8, .int l8)] [] (q_K0, z.1, z.2, q_R0) r h2 := by
  unfold T_X0_indexOf_136 at h
  refine q_blk2 (pc2 := 142) (ls2 := [(6, .int (l8 - 1)), (0, .ref 3), (1, .long l1), (3, .long l3), (5, .int l5), (7, .int l7), (8, .int l8)]) (st2 := []) (h2 := (q_K0, z.1, z.2, q_R0)) [(.iload 8, 0, 0, 0, 0, 0), (.iconst 1, 0, 0, 0, 1, 0), (.isub, 0, 0, 0, 0, 0), (.istore 6, 0, 0, 0, 0, 0)] (by decide +kernel) rfl rfl ⟨trivial, trivial, trivial, trivial, trivial⟩ ?_
  refine q_pick [1, 2, 3, 4, 0, 5] rfl ?_
  exact t_X0_indexOf_142 h k0 k1 k2 k3
def T_X0_indexOf_88 (z : q_Z) (l1 : Int64) (l3 : Int64) (l5 : Int32) (l6 : Int32) (l7 : Int32) (l8 : Int32) : Option ((Int64 × Int64 × Int32 × Int32 × Int32 × Int32 × q_Z) × Nat) :=
  if 0 ≤ Int32.toInt l8 ∧ Int32.toInt l8 < 128 then
    if (Int32.toInt64 (z.1 5 (Int32.toNatClampNeg l8))) < l1 then
      T_X0_indexOf_127 z l1 l3 l6 l7 l8
    else
      if 0 ≤ Int32.toInt l8 ∧ Int32.toInt l8 < 128 then
        if (Int32.toInt64 (z.1 5 (Int32.toNatClampNeg l8))) = l1 then
          if 0 ≤ Int32.toInt l8 ∧ Int32.toInt l8 < 128 then
            if l3 ≤ (Int32.toInt64 (z.1 6 (Int32.toNatClampNeg l8))) then
              T_X0_indexOf_136 z l1 l3 l5 l7 l8
            else
              T_X0_indexOf_127 z l1 l3 l6 l7 l8
          else none
        else
          T_X0_indexOf_136 z l1 l3 l5 l7 l8
      else none
  else none
set_option maxRecDepth 100000 in
set_option maxHeartbeats 4000000 in
theorem t_X0_indexOf_88 {z : q_Z} {l1 : Int64} {l3 : Int64} {l5 : Int32} {l6 : Int32} {l7 : Int32} {l8 : Int32} {s2 : Int64 × Int64 × Int32 × Int32 × Int32 × Int32 × q_Z} {t : Nat} {r : Option Value} {h2 : q_H} (h : T_X0_indexOf_88 z l1 l3 l5 l6 l7 l8 = some (s2, t)) (k0 : t = 0 → q_Ex none 7 20 [(0, .ref 3), (1, .long s2.1), (3, .long s2.2.1), (5, .int s2.2.2.1), (6, .int s2.2.2.2.1), (7, .int s2.2.2.2.2.1)] [] (q_K0, s2.2.2.2.2.2.2.1, s2.2.2.2.2.2.2.2, q_R0) r h2) (k1 : t = 1 → q_Ex none 7 57 [(0, .ref 3), (1, .long s2.1), (3, .long s2.2.1), (5, .int s2.2.2.1), (6, .int s2.2.2.2.1), (7, .int s2.2.2.2.2.1)] [] (q_K0, s2.2.2.2.2.2.2.1, s2.2.2.2.2.2.2.2, q_R0) r h2) (k2 : t = 2 → q_Ex none 7 85 [(0, .ref 3), (1, .long s2.1), (3, .long s2.2.1), (5, .int s2.2.2.1), (6, .int s2.2.2.2.1), (7, .int s2.2.2.2.2.1), (8, .int s2.2.2.2.2.2.1)] [] (q_K0, s2.2.2.2.2.2.2.1, s2.2.2.2.2.2.2.2, q_R0) r h2) (k3 : t = 3 → q_Ex none 7 148 [(0, .ref 3), (1, .long s2.1), (3, .long s2.2.1), (5, .int s2.2.2.1), (6, .int s2.2.2.2.1), (7, .int s2.2.2.2.2.1)] [] (q_K0, s2.2.2.2.2.2.2.1, s2.2.2.2.2.2.2.2, q_R0) r h2) : q_Ex none 7 88 [(0, .ref 3), (1, .long l1), (3, .long l3), (5, .int l5), (6, .int l6), (7, .int l7), (8, .int l8)] [] (q_K0, z.1, z.2, q_R0) r h2 := by
  unfold T_X0_indexOf_88 at h
  have b4 : 0 ≤ Int32.toInt l8 ∧ Int32.toInt l8 < 128 := by
    by_cases q : 0 ≤ Int32.toInt l8 ∧ Int32.toInt l8 < 128
    · exact q
    · rw [if_neg q] at h; cases h
  rw [if_pos b4] at h
  refine q_blk2 (pc2 := 97) (ls2 := [(0, .ref 3), (1, .long l1), (3, .long l3), (5, .int l5), (6, .int l6), (7, .int l7), (8, .int l8)]) (st2 := [.long l1, .long (Int32.toInt64 (z.1 5 (Int32.toNatClampNeg l8)))]) (h2 := (q_K0, z.1, z.2, q_R0)) [(.aload_n 0, 0, 0, 0, 0, 0), (.getfield 18, 0, 0, 1, 0, 0), (.iload 8, 0, 0, 0, 0, 0), (.iaload, 0, 0, 0, 0, 0), (.i2l, 0, 0, 0, 0, 0), (.lload_n 1, 0, 0, 0, 0, 0)] (by decide +kernel) rfl rfl ⟨trivial, rfl, trivial, ⟨_, rfl, vp_in_iff.mpr b4⟩, trivial, trivial, trivial⟩ ?_
  refine q_lc_lt (off := 29) (tgt := 127) (by decide +kernel) (by decide +kernel) (by decide) (fun c97_1 => ?_) (fun c97_1 => ?_)
  · rw [if_pos c97_1] at h
    refine q_pick [0, 1, 2, 4, 5, 6] rfl ?_
    exact t_X0_indexOf_127 h k0 k1 k2 k3
  · rw [if_neg c97_1] at h
    have b5 : 0 ≤ Int32.toInt l8 ∧ Int32.toInt l8 < 128 := by
      by_cases q : 0 ≤ Int32.toInt l8 ∧ Int32.toInt l8 < 128
      · exact q
      · rw [if_neg q] at h; cases h
    rw [if_pos b5] at h
    refine q_blk2 (pc2 := 110) (ls2 := [(0, .ref 3), (1, .long l1), (3, .long l3), (5, .int l5), (6, .int l6), (7, .int l7), (8, .int l8)]) (st2 := [.long l1, .long (Int32.toInt64 (z.1 5 (Int32.toNatClampNeg l8)))]) (h2 := (q_K0, z.1, z.2, q_R0)) [(.aload_n 0, 0, 0, 0, 0, 0), (.getfield 18, 0, 0, 1, 0, 0), (.iload 8, 0, 0, 0, 0, 0), (.iaload, 0, 0, 0, 0, 0), (.i2l, 0, 0, 0, 0, 0), (.lload_n 1, 0, 0, 0, 0, 0)] (by decide +kernel) rfl rfl ⟨trivial, rfl, trivial, ⟨_, rfl, vp_in_iff.mpr b5⟩, trivial, trivial, trivial⟩ ?_
    refine q_lc_ne (off := 25) (tgt := 136) (by decide +kernel) (by decide +kernel) (by decide) (fun c110_2 => ?_) (fun c110_2 => ?_)
    · rw [if_neg c110_2] at h
      refine q_pick [0, 1, 2, 3, 5, 6] rfl ?_
      exact t_X0_indexOf_136 h k0 k1 k2 k3
    · rw [if_pos c110_2] at h
      have b6 : 0 ≤ Int32.toInt l8 ∧ Int32.toInt l8 < 128 := by
        by_cases q : 0 ≤ Int32.toInt l8 ∧ Int32.toInt l8 < 128
        · exact q
        · rw [if_neg q] at h; cases h
      rw [if_pos b6] at h
      refine q_blk2 (pc2 := 123) (ls2 := [(0, .ref 3), (1, .long l1), (3, .long l3), (5, .int l5), (6, .int l6), (7, .int l7), (8, .int l8)]) (st2 := [.long l3, .long (Int32.toInt64 (z.1 6 (Int32.toNatClampNeg l8)))]) (h2 := (q_K0, z.1, z.2, q_R0)) [(.aload_n 0, 0, 0, 0, 0, 0), (.getfield 22, 0, 0, 2, 0, 0), (.iload 8, 0, 0, 0, 0, 0), (.iaload, 0, 0, 0, 0, 0), (.i2l, 0, 0, 0, 0, 0), (.lload_n 3, 0, 0, 0, 0, 0)] (by decide +kernel) rfl rfl ⟨trivial, rfl, trivial, ⟨_, rfl, vp_in_iff.mpr b6⟩, trivial, trivial, trivial⟩ ?_
      refine q_lc_ge (off := 12) (tgt := 136) (by decide +kernel) (by decide +kernel) (by decide) (fun c123_3 => ?_) (fun c123_3 => ?_)
      · rw [if_pos c123_3] at h
        refine q_pick [0, 1, 2, 3, 5, 6] rfl ?_
        exact t_X0_indexOf_136 h k0 k1 k2 k3
      · rw [if_neg c123_3] at h
        refine q_pick [0, 1, 2, 4, 5, 6] rfl ?_
        exact t_X0_indexOf_127 h k0 k1 k2 k3
def B_X0_indexOf_20 : Int64 × Int64 × Int32 × Int32 × Int32 × Int32 × q_Z → Option ((Int64 × Int64 × Int32 × Int32 × Int32 × Int32 × q_Z) × Nat) := fun (l1, l3, l5, l6, l7, g8, z) =>
  if (128 : Int32) ≤ l7 then
    some ((l1, l3, l5, l6, l7, 0, z), 3)
  else
    if l6 < l5 then
      some ((l1, l3, l5, l6, l7, 0, z), 3)
    else
      if ((l5 + l6) / 2) < (0 : Int32) then
        some ((l1, l3, l5, l6, l7, 0, z), 1)
      else
        if ((l5 + l6) / 2) < (128 : Int32) then
          if 0 ≤ Int32.toInt ((l5 + l6) / 2) ∧ Int32.toInt ((l5 + l6) / 2) < 128 then
            if (Int32.toInt64 (z.1 5 (Int32.toNatClampNeg ((l5 + l6) / 2)))) = l1 then
              if 0 ≤ Int32.toInt ((l5 + l6) / 2) ∧ Int32.toInt ((l5 + l6) / 2) < 128 then
                if (Int32.toInt64 (z.1 6 (Int32.toNatClampNeg ((l5 + l6) / 2)))) = l3 then
                  some ((l1, l3, l5, l6, l7, (l5 + l6) / 2, z), 2)
                else
                  T_X0_indexOf_88 z l1 l3 l5 l6 l7 ((l5 + l6) / 2)
              else none
            else
              T_X0_indexOf_88 z l1 l3 l5 l6 l7 ((l5 + l6) / 2)
          else none
        else
          some ((l1, l3, l5, l6, l7, 0, z), 1)
set_option maxRecDepth 100000 in
set_option maxHeartbeats 4000000 in
theorem b_X0_indexOf_20 {s s2 : Int64 × Int64 × Int32 × Int32 × Int32 × Int32 × q_Z} {t : Nat} {r : Option Value} {h2 : q_H} (h : B_X0_indexOf_20 s = some (s2, t)) (k0 : t = 0 → q_Ex none 7 20 [(0, .ref 3), (1, .long s2.1), (3, .long s2.2.1), (5, .int s2.2.2.1), (6, .int s2.2.2.2.1), (7, .int s2.2.2.2.2.1)] [] (q_K0, s2.2.2.2.2.2.2.1, s2.2.2.2.2.2.2.2, q_R0) r h2) (k1 : t = 1 → q_Ex none 7 57 [(0, .ref 3), (1, .long s2.1), (3, .long s2.2.1), (5, .int s2.2.2.1), (6, .int s2.2.2.2.1), (7, .int s2.2.2.2.2.1)] [] (q_K0, s2.2.2.2.2.2.2.1, s2.2.2.2.2.2.2.2, q_R0) r h2) (k2 : t = 2 → q_Ex none 7 85 [(0, .ref 3), (1, .long s2.1), (3, .long s2.2.1), (5, .int s2.2.2.1), (6, .int s2.2.2.2.1), (7, .int s2.2.2.2.2.1), (8, .int s2.2.2.2.2.2.1)] [] (q_K0, s2.2.2.2.2.2.2.1, s2.2.2.2.2.2.2.2, q_R0) r h2) (k3 : t = 3 → q_Ex none 7 148 [(0, .ref 3), (1, .long s2.1), (3, .long s2.2.1), (5, .int s2.2.2.1), (6, .int s2.2.2.2.1), (7, .int s2.2.2.2.2.1)] [] (q_K0, s2.2.2.2.2.2.2.1, s2.2.2.2.2.2.2.2, q_R0) r h2) : q_Ex none 7 20 [(0, .ref 3), (1, .long s.1), (3, .long s.2.1), (5, .int s.2.2.1), (6, .int s.2.2.2.1), (7, .int s.2.2.2.2.1)] [] (q_K0, s.2.2.2.2.2.2.1, s.2.2.2.2.2.2.2, q_R0) r h2 := by
  unfold B_X0_indexOf_20 at h
  obtain ⟨l1, l3, l5, l6, l7, g8, z⟩ := s
  dsimp only at h
  show q_Ex none 7 20 [(0, .ref 3), (1, .long l1), (3, .long l3), (5, .int l5), (6, .int l6), (7, .int l7)] [] (q_K0, z.1, z.2, q_R0) r h2
  refine q_blk2 (pc2 := 25) (ls2 := [(0, .ref 3), (1, .long l1), (3, .long l3), (5, .int l5), (6, .int l6), (7, .int l7)]) (st2 := [.int 128, .int l7]) (h2 := (q_K0, z.1, z.2, q_R0)) [(.iload 7, 0, 0, 0, 0, 0), (.sipush 128, 0, 0, 0, 128, 0)] (by decide +kernel) rfl rfl ⟨trivial, trivial, trivial⟩ ?_
  refine q_ic_ge (off := 123) (tgt := 148) (by decide +kernel) (by decide) (fun c25_1 => ?_) (fun c25_1 => ?_)
  · rw [if_pos c25_1] at h
    cases h
    refine q_pick [0, 1, 2, 3, 4, 5] rfl ?_
    exact k3 rfl
  · rw [if_neg c25_1] at h
    refine q_blk2 (pc2 := 32) (ls2 := [(0, .ref 3), (1, .long l1), (3, .long l3), (5, .int l5), (6, .int l6), (7, .int l7)]) (st2 := [.int l6, .int l5]) (h2 := (q_K0, z.1, z.2, q_R0)) [(.iload 5, 0, 0, 0, 0, 0), (.iload 6, 0, 0, 0, 0, 0)] (by decide +kernel) rfl rfl ⟨trivial, trivial, trivial⟩ ?_
    refine q_ic_gt (off := 116) (tgt := 148) (by decide +kernel) (by decide) (fun c32_2 => ?_) (fun c32_2 => ?_)
    · rw [if_pos c32_2] at h
      cases h
      refine q_pick [0, 1, 2, 3, 4, 5] rfl ?_
      exact k3 rfl
    · rw [if_neg c32_2] at h
      refine q_blk2 (pc2 := 46) (ls2 := [(8, .int ((l5 + l6) / 2)), (0, .ref 3), (1, .long l1), (3, .long l3), (5, .int l5), (6, .int l6), (7, .int l7)]) (st2 := [.int ((l5 + l6) / 2)]) (h2 := (q_K0, z.1, z.2, q_R0)) [(.iload 5, 0, 0, 0, 0, 0), (.iload 6, 0, 0, 0, 0, 0), (.iadd, 0, 0, 0, 0, 0), (.iconst 2, 0, 0, 0, 2, 0), (.idiv, 0, 0, 0, 0, 0), (.istore 8, 0, 0, 0, 0, 0), (.iload 8, 0, 0, 0, 0, 0)] (by decide +kernel) rfl rfl ⟨trivial, trivial, trivial, trivial, (by decide), trivial, trivial, trivial⟩ ?_
      refine q_if_lt (off := 11) (tgt := 57) (by decide +kernel) (by decide) (fun c46_3 => ?_) (fun c46_3 => ?_)
      · rw [if_pos c46_3] at h
        cases h
        refine q_pick [1, 2, 3, 4, 5, 6] rfl ?_
        exact k1 rfl
      · rw [if_neg c46_3] at h
        refine q_blk2 (pc2 := 54) (ls2 := [(8, .int ((l5 + l6) / 2)), (0, .ref 3), (1, .long l1), (3, .long l3), (5, .int l5), (6, .int l6), (7, .int l7)]) (st2 := [.int 128, .int ((l5 + l6) / 2)]) (h2 := (q_K0, z.1, z.2, q_R0)) [(.iload 8, 0, 0, 0, 0, 0), (.sipush 128, 0, 0, 0, 128, 0)] (by decide +kernel) rfl rfl ⟨trivial, trivial, trivial⟩ ?_
        refine q_ic_lt (off := 5) (tgt := 59) (by decide +kernel) (by decide) (fun c54_4 => ?_) (fun c54_4 => ?_)
        · rw [if_pos c54_4] at h
          have b3 : 0 ≤ Int32.toInt ((l5 + l6) / 2) ∧ Int32.toInt ((l5 + l6) / 2) < 128 := by
            by_cases q : 0 ≤ Int32.toInt ((l5 + l6) / 2) ∧ Int32.toInt ((l5 + l6) / 2) < 128
            · exact q
            · rw [if_neg q] at h; cases h
          rw [if_pos b3] at h
          refine q_blk2 (pc2 := 68) (ls2 := [(8, .int ((l5 + l6) / 2)), (0, .ref 3), (1, .long l1), (3, .long l3), (5, .int l5), (6, .int l6), (7, .int l7)]) (st2 := [.long l1, .long (Int32.toInt64 (z.1 5 (Int32.toNatClampNeg ((l5 + l6) / 2))))]) (h2 := (q_K0, z.1, z.2, q_R0)) [(.aload_n 0, 0, 0, 0, 0, 0), (.getfield 18, 0, 0, 1, 0, 0), (.iload 8, 0, 0, 0, 0, 0), (.iaload, 0, 0, 0, 0, 0), (.i2l, 0, 0, 0, 0, 0), (.lload_n 1, 0, 0, 0, 0, 0)] (by decide +kernel) rfl rfl ⟨trivial, rfl, trivial, ⟨_, rfl, vp_in_iff.mpr b3⟩, trivial, trivial, trivial⟩ ?_
          refine q_lc_ne (off := 19) (tgt := 88) (by decide +kernel) (by decide +kernel) (by decide) (fun c68_5 => ?_) (fun c68_5 => ?_)
          · rw [if_neg c68_5] at h
            refine q_pick [1, 2, 3, 4, 5, 6, 0] rfl ?_
            exact t_X0_indexOf_88 h k0 k1 k2 k3
          · rw [if_pos c68_5] at h
            have b7 : 0 ≤ Int32.toInt ((l5 + l6) / 2) ∧ Int32.toInt ((l5 + l6) / 2) < 128 := by
              by_cases q : 0 ≤ Int32.toInt ((l5 + l6) / 2) ∧ Int32.toInt ((l5 + l6) / 2) < 128
              · exact q
              · rw [if_neg q] at h; cases h
            rw [if_pos b7] at h
            refine q_blk2 (pc2 := 81) (ls2 := [(8, .int ((l5 + l6) / 2)), (0, .ref 3), (1, .long l1), (3, .long l3), (5, .int l5), (6, .int l6), (7, .int l7)]) (st2 := [.long l3, .long (Int32.toInt64 (z.1 6 (Int32.toNatClampNeg ((l5 + l6) / 2))))]) (h2 := (q_K0, z.1, z.2, q_R0)) [(.aload_n 0, 0, 0, 0, 0, 0), (.getfield 22, 0, 0, 2, 0, 0), (.iload 8, 0, 0, 0, 0, 0), (.iaload, 0, 0, 0, 0, 0), (.i2l, 0, 0, 0, 0, 0), (.lload_n 3, 0, 0, 0, 0, 0)] (by decide +kernel) rfl rfl ⟨trivial, rfl, trivial, ⟨_, rfl, vp_in_iff.mpr b7⟩, trivial, trivial, trivial⟩ ?_
            refine q_lc_ne (off := 6) (tgt := 88) (by decide +kernel) (by decide +kernel) (by decide) (fun c81_6 => ?_) (fun c81_6 => ?_)
            · rw [if_neg c81_6] at h
              refine q_pick [1, 2, 3, 4, 5, 6, 0] rfl ?_
              exact t_X0_indexOf_88 h k0 k1 k2 k3
            · rw [if_pos c81_6] at h
              cases h
              refine q_pick [1, 2, 3, 4, 5, 6, 0] rfl ?_
              exact k2 rfl
        · rw [if_neg c54_4] at h
          cases h
          refine q_pick [1, 2, 3, 4, 5, 6] rfl ?_
          exact k1 rfl
def T_X0_indexOf_57 (z : q_Z) : Option (Int32 × q_Z) :=
  some ((-1), z)
set_option maxRecDepth 100000 in
set_option maxHeartbeats 4000000 in
theorem t_X0_indexOf_57 {z zR : q_Z} {rv : Int32} (h : T_X0_indexOf_57 z = some (rv, zR)) : q_Ex none 7 57 [] [] (q_K0, z.1, z.2, q_R0) (some (.int rv)) (q_K0, zR.1, zR.2, q_R0) := by
  unfold T_X0_indexOf_57 at h
  refine q_blk2 (pc2 := 58) (ls2 := []) (st2 := [.int (-1)]) (h2 := (q_K0, z.1, z.2, q_R0)) [(.iconst (-1), 0, 0, 0, (-1), 0)] (by decide +kernel) rfl rfl ⟨trivial, trivial⟩ ?_
  cases h
  exact q_iret .int rfl rfl (by decide +kernel)
def T_X0_indexOf_148 (z : q_Z) : Option (Int32 × q_Z) :=
  some ((-1), z)
set_option maxRecDepth 100000 in
set_option maxHeartbeats 4000000 in
theorem t_X0_indexOf_148 {z zR : q_Z} {rv : Int32} (h : T_X0_indexOf_148 z = some (rv, zR)) : q_Ex none 7 148 [] [] (q_K0, z.1, z.2, q_R0) (some (.int rv)) (q_K0, zR.1, zR.2, q_R0) := by
  unfold T_X0_indexOf_148 at h
  refine q_blk2 (pc2 := 149) (ls2 := []) (st2 := [.int (-1)]) (h2 := (q_K0, z.1, z.2, q_R0)) [(.iconst (-1), 0, 0, 0, (-1), 0)] (by decide +kernel) rfl rfl ⟨trivial, trivial⟩ ?_
  cases h
  exact q_iret .int rfl rfl (by decide +kernel)
/-- RootForms$ClassTable.indexOf(JJ)I -/
def F_X0_indexOf (z : q_Z) (l1 : Int64) (l3 : Int64) : Option (Int32 × q_Z) :=
  (F_J9_min_7cf53 z (z.1 3 9) 128).bind fun (r1, z2) =>
    (q_lp (B_X0_indexOf_20) q_fu (l1, l3, 0, r1 - 1, 0, 0, z2)).bind fun ((w9, w10, w11, w12, w13, w14, z8), tg) =>
      if tg = 0 then
        T_X0_indexOf_57 z8
      else if tg = 1 then
        some (w14, z8)
      else if tg = 2 then
        T_X0_indexOf_148 z8
      else none
set_option maxRecDepth 100000 in
set_option maxHeartbeats 4000000 in
theorem s_X0_indexOf {z zR : q_Z} {l1 : Int64} {l3 : Int64} {rv : Int32} (h : F_X0_indexOf z l1 l3 = some (rv, zR)) : q_Ca 7 [.ref 3, .long l1, .long l3] (q_K0, z.1, z.2, q_R0) (some (.int rv)) (q_K0, zR.1, zR.2, q_R0) := by
  refine q_Ca_of (by decide) (Nat.le_of_ble_eq_true rfl) ?_
  show q_Ex none 7 0 [(0, .ref 3), (1, .long l1), (3, .long l3)] [] (q_K0, z.1, z.2, q_R0) _ _
  unfold F_X0_indexOf at h
  refine q_blk2 (pc2 := 10) (ls2 := [(5, .int 0), (0, .ref 3), (1, .long l1), (3, .long l3)]) (st2 := [.int 128, .int (z.1 3 9)]) (h2 := (q_K0, z.1, z.2, q_R0)) [(.iconst 0, 0, 0, 0, 0, 0), (.istore 5, 0, 0, 0, 0, 0), (.aload_n 0, 0, 0, 0, 0, 0), (.getfield 63, 0, 0, 9, 0, 0), (.sipush 128, 0, 0, 0, 128, 0)] (by decide +kernel) rfl rfl ⟨trivial, trivial, trivial, rfl, trivial, trivial⟩ ?_
  obtain ⟨⟨r1, z2⟩, hc15, h⟩ := Option.bind_eq_some_iff.mp h
  dsimp only at h
  refine q_cS1 (idx := 119) (v := .int r1) (h1 := (q_K0, z2.1, z2.2, q_R0)) [.int 128, .int (z.1 3 9)] 162 [.int (z.1 3 9), .int 128] [] rfl (by decide +kernel) (by decide +kernel) rfl (Nat.le_of_ble_eq_true rfl) (by decide +kernel) (s_J9_min_7cf53 hc15) ?_
  refine q_blk2 (pc2 := 20) (ls2 := [(7, .int 0), (6, .int (r1 - 1)), (5, .int 0), (0, .ref 3), (1, .long l1), (3, .long l3)]) (st2 := []) (h2 := (q_K0, z2.1, z2.2, q_R0)) [(.iconst 1, 0, 0, 0, 1, 0), (.isub, 0, 0, 0, 0, 0), (.istore 6, 0, 0, 0, 0, 0), (.iconst 0, 0, 0, 0, 0, 0), (.istore 7, 0, 0, 0, 0, 0)] (by decide +kernel) rfl rfl ⟨trivial, trivial, trivial, trivial, trivial, trivial⟩ ?_
  obtain ⟨⟨⟨w9, w10, w11, w12, w13, w14, z8⟩, tg17⟩, hl16, h⟩ := Option.bind_eq_some_iff.mp h
  dsimp only at h
  refine q_pick [3, 4, 5, 2, 1, 0] rfl ?_
  refine q_lp_ok (P := fun s => q_Ex _ 7 20 [(0, .ref 3), (1, .long s.1), (3, .long s.2.1), (5, .int s.2.2.1), (6, .int s.2.2.2.1), (7, .int s.2.2.2.2.1)] [] (q_K0, s.2.2.2.2.2.2.1, s.2.2.2.2.2.2.2, q_R0) _ _) (X := fun u s => (u = 0 → q_Ex _ 7 57 [(0, .ref 3), (1, .long s.1), (3, .long s.2.1), (5, .int s.2.2.1), (6, .int s.2.2.2.1), (7, .int s.2.2.2.2.1)] [] (q_K0, s.2.2.2.2.2.2.1, s.2.2.2.2.2.2.2, q_R0) _ _) ∧ (u = 1 → q_Ex _ 7 85 [(0, .ref 3), (1, .long s.1), (3, .long s.2.1), (5, .int s.2.2.1), (6, .int s.2.2.2.1), (7, .int s.2.2.2.2.1), (8, .int s.2.2.2.2.2.1)] [] (q_K0, s.2.2.2.2.2.2.1, s.2.2.2.2.2.2.2, q_R0) _ _) ∧ (u = 2 → q_Ex _ 7 148 [(0, .ref 3), (1, .long s.1), (3, .long s.2.1), (5, .int s.2.2.1), (6, .int s.2.2.2.1), (7, .int s.2.2.2.2.1)] [] (q_K0, s.2.2.2.2.2.2.1, s.2.2.2.2.2.2.2, q_R0) _ _)) (fun s s2 t hh k0 kx => b_X0_indexOf_20 hh k0 (fun e => (kx 0 e).1 rfl) (fun e => (kx 1 e).2.1 rfl) (fun e => (kx 2 e).2.2 rfl)) hl16 ?_
  refine ⟨?_, ?_, ?_⟩
  · intro e_tg17
    subst e_tg17
    rw [if_pos rfl] at h
    show q_Ex _ 7 57 [(0, .ref 3), (1, .long w9), (3, .long w10), (5, .int w11), (6, .int w12), (7, .int w13)] [] (q_K0, z8.1, z8.2, q_R0) _ _
    refine q_pick [] rfl ?_
    exact t_X0_indexOf_57 h
  · intro e_tg17
    subst e_tg17
    rw [if_neg (by decide)] at h
    rw [if_pos rfl] at h
    show q_Ex _ 7 85 [(0, .ref 3), (1, .long w9), (3, .long w10), (5, .int w11), (6, .int w12), (7, .int w13), (8, .int w14)] [] (q_K0, z8.1, z8.2, q_R0) _ _
    refine q_blk2 (pc2 := 87) (ls2 := [(0, .ref 3), (1, .long w9), (3, .long w10), (5, .int w11), (6, .int w12), (7, .int w13), (8, .int w14)]) (st2 := [.int w14]) (h2 := (q_K0, z8.1, z8.2, q_R0)) [(.iload 8, 0, 0, 0, 0, 0)] (by decide +kernel) rfl rfl ⟨trivial, trivial⟩ ?_
    cases h
    exact q_iret .int rfl rfl (by decide +kernel)
  · intro e_tg17
    subst e_tg17
    rw [if_neg (by decide)] at h
    rw [if_neg (by decide)] at h
    rw [if_pos rfl] at h
    show q_Ex _ 7 148 [(0, .ref 3), (1, .long w9), (3, .long w10), (5, .int w11), (6, .int w12), (7, .int w13)] [] (q_K0, z8.1, z8.2, q_R0) _ _
    refine q_pick [] rfl ?_
    exact t_X0_indexOf_148 h
def B_X0_markRing_60 : Int32 × Int32 × Int32 × q_Z → Option ((Int32 × Int32 × Int32 × q_Z) × Nat) := fun (l1, l2, l3, z) =>
  if (128 : Int32) ≤ l3 then
    some ((l1, l2, l3, z), 2)
  else
    (F_X2_advance 10 z).bind fun (r5, z6) =>
      (F_X2_advance 10 z6).bind fun (r7, z8) =>
        (F_X0_indexOf z8 (z8.2 10 0) (z8.2 10 1)).bind fun (r9, z10) =>
          if r9 < (0 : Int32) then
            some ((l1, l2, l3, z10), 1)
          else
            if (128 : Int32) ≤ r9 then
              some ((l1, l2, l3, z10), 1)
            else
              if r9 = l1 then
                some ((l1, l2, l3, z10), 1)
              else
                if 0 ≤ Int32.toInt r9 ∧ Int32.toInt r9 < 128 then
                  some ((l1, l2, l3 + 1, (q_u2 z10.1 8 (Int32.toNatClampNeg r9) l2, z10.2)), 0)
                else none
set_option maxRecDepth 100000 in
set_option maxHeartbeats 4000000 in
theorem b_X0_markRing_60 {s s2 : Int32 × Int32 × Int32 × q_Z} {t : Nat} {r : Option Value} {h2 : q_H} (h : B_X0_markRing_60 s = some (s2, t)) (k0 : t = 0 → q_Ex none 6 60 [(0, .ref 3), (1, .int s2.1), (2, .int s2.2.1), (3, .int s2.2.2.1)] [] (q_K0, s2.2.2.2.1, s2.2.2.2.2, q_R0) r h2) (k1 : t = 1 → q_Ex none 6 130 [(0, .ref 3), (1, .int s2.1), (2, .int s2.2.1), (3, .int s2.2.2.1)] [] (q_K0, s2.2.2.2.1, s2.2.2.2.2, q_R0) r h2) (k2 : t = 2 → q_Ex none 6 145 [(0, .ref 3), (1, .int s2.1), (2, .int s2.2.1), (3, .int s2.2.2.1)] [] (q_K0, s2.2.2.2.1, s2.2.2.2.2, q_R0) r h2) : q_Ex none 6 60 [(0, .ref 3), (1, .int s.1), (2, .int s.2.1), (3, .int s.2.2.1)] [] (q_K0, s.2.2.2.1, s.2.2.2.2, q_R0) r h2 := by
  unfold B_X0_markRing_60 at h
  obtain ⟨l1, l2, l3, z⟩ := s
  dsimp only at h
  show q_Ex none 6 60 [(0, .ref 3), (1, .int l1), (2, .int l2), (3, .int l3)] [] (q_K0, z.1, z.2, q_R0) r h2
  refine q_blk2 (pc2 := 64) (ls2 := [(0, .ref 3), (1, .int l1), (2, .int l2), (3, .int l3)]) (st2 := [.int 128, .int l3]) (h2 := (q_K0, z.1, z.2, q_R0)) [(.iload_n 3, 0, 0, 0, 0, 0), (.sipush 128, 0, 0, 0, 128, 0)] (by decide +kernel) rfl rfl ⟨trivial, trivial, trivial⟩ ?_
  refine q_ic_ge (off := 81) (tgt := 145) (by decide +kernel) (by decide) (fun c64_1 => ?_) (fun c64_1 => ?_)
  · rw [if_pos c64_1] at h
    cases h
    refine q_pick [0, 1, 2, 3] rfl ?_
    exact k2 rfl
  · rw [if_neg c64_1] at h
    refine q_blk2 (pc2 := 75) (ls2 := [(0, .ref 3), (1, .int l1), (2, .int l2), (3, .int l3)]) (st2 := [.ref 10, .ref 4]) (h2 := (q_K0, z.1, z.2, q_R0)) [(.aload_n 0, 0, 0, 0, 0, 0), (.getfield 12, 0, 0, 0, 0, 0), (.aload_n 0, 0, 0, 0, 0, 0), (.getfield 37, 0, 0, 6, 0, 0)] (by decide +kernel) rfl rfl ⟨trivial, rfl, trivial, rfl, trivial⟩ ?_
    obtain ⟨⟨r5, z6⟩, hc12, h⟩ := Option.bind_eq_some_iff.mp h
    dsimp only at h
    refine q_cV1 (idx := 104) (v := .long r5) (h1 := (q_K0, z6.1, z6.2, q_R0)) [.ref 10, .ref 4] 21 4 2 [.ref 10] [] rfl (by decide +kernel) (by decide +kernel) rfl (Nat.le_of_ble_eq_true rfl) rfl (by decide) (by decide +kernel) (by decide +kernel) (s_X2_advance rfl hc12) ?_
    refine q_blk2 (pc2 := 87) (ls2 := [(0, .ref 3), (1, .int l1), (2, .int l2), (3, .int l3)]) (st2 := [.ref 10, .ref 4]) (h2 := (q_K0, z6.1, z6.2, q_R0)) [(.pop2, 0, 0, 0, 0, 0), (.aload_n 0, 0, 0, 0, 0, 0), (.getfield 12, 0, 0, 0, 0, 0), (.aload_n 0, 0, 0, 0, 0, 0), (.getfield 37, 0, 0, 6, 0, 0)] (by decide +kernel) rfl rfl ⟨trivial, trivial, rfl, trivial, rfl, trivial⟩ ?_
    obtain ⟨⟨r7, z8⟩, hc13, h⟩ := Option.bind_eq_some_iff.mp h
    dsimp only at h
    refine q_cV1 (idx := 104) (v := .long r7) (h1 := (q_K0, z8.1, z8.2, q_R0)) [.ref 10, .ref 4] 21 4 2 [.ref 10] [] rfl (by decide +kernel) (by decide +kernel) rfl (Nat.le_of_ble_eq_true rfl) rfl (by decide) (by decide +kernel) (by decide +kernel) (s_X2_advance rfl hc13) ?_
    refine q_blk2 (pc2 := 106) (ls2 := [(0, .ref 3), (1, .int l1), (2, .int l2), (3, .int l3)]) (st2 := [.long (z8.2 10 1), .long (z8.2 10 0), .ref 3]) (h2 := (q_K0, z8.1, z8.2, q_R0)) [(.pop2, 0, 0, 0, 0, 0), (.aload_n 0, 0, 0, 0, 0, 0), (.aload_n 0, 0, 0, 0, 0, 0), (.getfield 37, 0, 0, 6, 0, 0), (.getfield 108, 0, 1, 0, 0, 0), (.aload_n 0, 0, 0, 0, 0, 0), (.getfield 37, 0, 0, 6, 0, 0), (.getfield 112, 0, 1, 1, 0, 0)] (by decide +kernel) rfl rfl ⟨trivial, trivial, trivial, rfl, rfl, trivial, rfl, rfl, trivial⟩ ?_
    obtain ⟨⟨r9, z10⟩, hc14, h⟩ := Option.bind_eq_some_iff.mp h
    dsimp only at h
    refine q_cV1 (idx := 115) (v := .int r9) (h1 := (q_K0, z10.1, z10.2, q_R0)) [.long (z8.2 10 1), .long (z8.2 10 0), .ref 3] 7 3 0 [.long (z8.2 10 0), .long (z8.2 10 1)] [] rfl (by decide +kernel) (by decide +kernel) rfl (Nat.le_of_ble_eq_true rfl) rfl (by decide) (by decide +kernel) (by decide +kernel) (s_X0_indexOf hc14) ?_
    refine q_blk2 (pc2 := 113) (ls2 := [(4, .int r9), (0, .ref 3), (1, .int l1), (2, .int l2), (3, .int l3)]) (st2 := [.int r9]) (h2 := (q_K0, z10.1, z10.2, q_R0)) [(.istore 4, 0, 0, 0, 0, 0), (.iload 4, 0, 0, 0, 0, 0)] (by decide +kernel) rfl rfl ⟨trivial, trivial, trivial⟩ ?_
    refine q_if_lt (off := 17) (tgt := 130) (by decide +kernel) (by decide) (fun c113_2 => ?_) (fun c113_2 => ?_)
    · rw [if_pos c113_2] at h
      cases h
      refine q_pick [1, 2, 3, 4] rfl ?_
      exact k1 rfl
    · rw [if_neg c113_2] at h
      refine q_blk2 (pc2 := 121) (ls2 := [(4, .int r9), (0, .ref 3), (1, .int l1), (2, .int l2), (3, .int l3)]) (st2 := [.int 128, .int r9]) (h2 := (q_K0, z10.1, z10.2, q_R0)) [(.iload 4, 0, 0, 0, 0, 0), (.sipush 128, 0, 0, 0, 128, 0)] (by decide +kernel) rfl rfl ⟨trivial, trivial, trivial⟩ ?_
      refine q_ic_ge (off := 9) (tgt := 130) (by decide +kernel) (by decide) (fun c121_3 => ?_) (fun c121_3 => ?_)
      · rw [if_pos c121_3] at h
        cases h
        refine q_pick [1, 2, 3, 4] rfl ?_
        exact k1 rfl
      · rw [if_neg c121_3] at h
        refine q_blk2 (pc2 := 127) (ls2 := [(4, .int r9), (0, .ref 3), (1, .int l1), (2, .int l2), (3, .int l3)]) (st2 := [.int l1, .int r9]) (h2 := (q_K0, z10.1, z10.2, q_R0)) [(.iload 4, 0, 0, 0, 0, 0), (.iload_n 1, 0, 0, 0, 0, 0)] (by decide +kernel) rfl rfl ⟨trivial, trivial, trivial⟩ ?_
        refine q_ic_ne (off := 4) (tgt := 131) (by decide +kernel) (by decide) (fun c127_4 => ?_) (fun c127_4 => ?_)
        · rw [if_neg c127_4] at h
          have b11 : 0 ≤ Int32.toInt r9 ∧ Int32.toInt r9 < 128 := by
            by_cases q : 0 ≤ Int32.toInt r9 ∧ Int32.toInt r9 < 128
            · exact q
            · rw [if_neg q] at h; cases h
          rw [if_pos b11] at h
          refine q_blk2 (pc2 := 142) (ls2 := [(3, .int (l3 + 1)), (4, .int r9), (0, .ref 3), (1, .int l1), (2, .int l2)]) (st2 := []) (h2 := (q_K0, q_u2 z10.1 8 (Int32.toNatClampNeg r9) l2, z10.2, q_R0)) [(.aload_n 0, 0, 0, 0, 0, 0), (.getfield 28, 0, 0, 4, 0, 0), (.iload 4, 0, 0, 0, 0, 0), (.iload_n 2, 0, 0, 0, 0, 0), (.iastore, 0, 0, 0, 0, 0), (.iinc 3 1, 0, 0, 0, 1, 0)] (by decide +kernel) rfl rfl ⟨trivial, rfl, trivial, trivial, ⟨_, rfl, vp_in_iff.mpr b11⟩, trivial, trivial⟩ ?_
          refine q_goto (off := -82) (tgt := 60) (by decide +kernel) (by decide) ?_
          cases h
          refine q_pick [2, 3, 4, 0] rfl ?_
          exact k0 rfl
        · rw [if_pos c127_4] at h
          cases h
          refine q_pick [1, 2, 3, 4] rfl ?_
          exact k1 rfl
/-- RootForms$ClassTable.markRing(II)V -/
def F_X0_markRing (z : q_Z) (l1 : Int32) (l2 : Int32) : Option (Unit × q_Z) :=
  if l1 < (0 : Int32) then
    some ((), z)
  else
    if l1 < (128 : Int32) then
      if 0 ≤ Int32.toInt l1 ∧ Int32.toInt l1 < 128 then
        if (0 : Int32) ≤ (z.1 4 0) then
          if 0 ≤ Int32.toInt l1 ∧ Int32.toInt l1 < 128 then
            (F_X1_put 10 (q_u2 z.1 8 (Int32.toNatClampNeg l1) l2, z.2) (Int32.toInt64 (z.1 5 (Int32.toNatClampNeg l1))) (Int32.toInt64 (z.1 6 (Int32.toNatClampNeg l1))) (Int32.toInt64 (z.1 7 (Int32.toNatClampNeg l1)))).bind fun (_, z4) =>
              (q_lp (B_X0_markRing_60) q_fu (l1, l2, 0, z4)).bind fun ((w16, w17, w18, z15), tg) =>
                if tg = 0 then
                  some ((), z15)
                else if tg = 1 then
                  some ((), z15)
                else none
          else none
        else
          some ((), (q_u2 z.1 8 (Int32.toNatClampNeg l1) l2, z.2))
      else none
    else
      some ((), z)
set_option maxRecDepth 100000 in
set_option maxHeartbeats 4000000 in
theorem s_X0_markRing {z zR : q_Z} {l1 : Int32} {l2 : Int32} {rv : Unit} (h : F_X0_markRing z l1 l2 = some (rv, zR)) : q_Ca 6 [.ref 3, .int l1, .int l2] (q_K0, z.1, z.2, q_R0) none (q_K0, zR.1, zR.2, q_R0) := by
  refine q_Ca_of (by decide) (Nat.le_of_ble_eq_true rfl) ?_
  show q_Ex none 6 0 [(0, .ref 3), (1, .int l1), (2, .int l2)] [] (q_K0, z.1, z.2, q_R0) _ _
  unfold F_X0_markRing at h
  refine q_blk2 (pc2 := 1) (ls2 := [(0, .ref 3), (1, .int l1), (2, .int l2)]) (st2 := [.int l1]) (h2 := (q_K0, z.1, z.2, q_R0)) [(.iload_n 1, 0, 0, 0, 0, 0)] (by decide +kernel) rfl rfl ⟨trivial, trivial⟩ ?_
  refine q_if_lt (off := 10) (tgt := 11) (by decide +kernel) (by decide) (fun c1_1 => ?_) (fun c1_1 => ?_)
  · rw [if_pos c1_1] at h
    cases h
    exact q_vret rfl (by decide +kernel)
  · rw [if_neg c1_1] at h
    refine q_blk2 (pc2 := 8) (ls2 := [(0, .ref 3), (1, .int l1), (2, .int l2)]) (st2 := [.int 128, .int l1]) (h2 := (q_K0, z.1, z.2, q_R0)) [(.iload_n 1, 0, 0, 0, 0, 0), (.sipush 128, 0, 0, 0, 128, 0)] (by decide +kernel) rfl rfl ⟨trivial, trivial, trivial⟩ ?_
    refine q_ic_lt (off := 4) (tgt := 12) (by decide +kernel) (by decide) (fun c8_2 => ?_) (fun c8_2 => ?_)
    · rw [if_pos c8_2] at h
      have b1 : 0 ≤ Int32.toInt l1 ∧ Int32.toInt l1 < 128 := by
        by_cases q : 0 ≤ Int32.toInt l1 ∧ Int32.toInt l1 < 128
        · exact q
        · rw [if_neg q] at h; cases h
      rw [if_pos b1] at h
      refine q_blk2 (pc2 := 26) (ls2 := [(0, .ref 3), (1, .int l1), (2, .int l2)]) (st2 := [.int (z.1 4 0)]) (h2 := (q_K0, q_u2 z.1 8 (Int32.toNatClampNeg l1) l2, z.2, q_R0)) [(.aload_n 0, 0, 0, 0, 0, 0), (.getfield 28, 0, 0, 4, 0, 0), (.iload_n 1, 0, 0, 0, 0, 0), (.iload_n 2, 0, 0, 0, 0, 0), (.iastore, 0, 0, 0, 0, 0), (.aload_n 0, 0, 0, 0, 0, 0), (.getfield 12, 0, 0, 0, 0, 0), (.getfield 54, 0, 2, 0, 0, 0)] (by decide +kernel) rfl rfl ⟨trivial, rfl, trivial, trivial, ⟨_, rfl, vp_in_iff.mpr b1⟩, trivial, rfl, rfl, trivial⟩ ?_
      refine q_if_ge (off := 4) (tgt := 30) (by decide +kernel) (by decide) (fun c26_3 => ?_) (fun c26_3 => ?_)
      · rw [if_pos c26_3] at h
        have b2 : 0 ≤ Int32.toInt l1 ∧ Int32.toInt l1 < 128 := by
          by_cases q : 0 ≤ Int32.toInt l1 ∧ Int32.toInt l1 < 128
          · exact q
          · rw [if_neg q] at h; cases h
        rw [if_pos b2] at h
        refine q_blk2 (pc2 := 55) (ls2 := [(0, .ref 3), (1, .int l1), (2, .int l2)]) (st2 := [.long (Int32.toInt64 (z.1 7 (Int32.toNatClampNeg l1))), .long (Int32.toInt64 (z.1 6 (Int32.toNatClampNeg l1))), .long (Int32.toInt64 (z.1 5 (Int32.toNatClampNeg l1))), .ref 10]) (h2 := (q_K0, q_u2 z.1 8 (Int32.toNatClampNeg l1) l2, z.2, q_R0)) [(.aload_n 0, 0, 0, 0, 0, 0), (.getfield 37, 0, 0, 6, 0, 0), (.aload_n 0, 0, 0, 0, 0, 0), (.getfield 18, 0, 0, 1, 0, 0), (.iload_n 1, 0, 0, 0, 0, 0), (.iaload, 0, 0, 0, 0, 0), (.i2l, 0, 0, 0, 0, 0), (.aload_n 0, 0, 0, 0, 0, 0), (.getfield 22, 0, 0, 2, 0, 0), (.iload_n 1, 0, 0, 0, 0, 0), (.iaload, 0, 0, 0, 0, 0), (.i2l, 0, 0, 0, 0, 0), (.aload_n 0, 0, 0, 0, 0, 0), (.getfield 25, 0, 0, 3, 0, 0), (.iload_n 1, 0, 0, 0, 0, 0), (.iaload, 0, 0, 0, 0, 0), (.i2l, 0, 0, 0, 0, 0)] (by decide +kernel) rfl rfl ⟨trivial, rfl, trivial, rfl, trivial, ⟨_, rfl, vp_in_iff.mpr b2⟩, trivial, trivial, rfl, trivial, ⟨_, rfl, vp_in_iff.mpr b2⟩, trivial, trivial, rfl, trivial, ⟨_, rfl, vp_in_iff.mpr b2⟩, trivial, trivial⟩ ?_
        obtain ⟨⟨_, z4⟩, hc19, h⟩ := Option.bind_eq_some_iff.mp h
        dsimp only at h
        refine q_cV0 (idx := 100) (h1 := (q_K0, z4.1, z4.2, q_R0)) [.long (Int32.toInt64 (z.1 7 (Int32.toNatClampNeg l1))), .long (Int32.toInt64 (z.1 6 (Int32.toNatClampNeg l1))), .long (Int32.toInt64 (z.1 5 (Int32.toNatClampNeg l1))), .ref 10] 12 10 1 [.long (Int32.toInt64 (z.1 5 (Int32.toNatClampNeg l1))), .long (Int32.toInt64 (z.1 6 (Int32.toNatClampNeg l1))), .long (Int32.toInt64 (z.1 7 (Int32.toNatClampNeg l1)))] [] rfl (by decide +kernel) (by decide +kernel) rfl (Nat.le_of_ble_eq_true rfl) rfl (by decide) (by decide +kernel) (by decide +kernel) (s_X1_put rfl hc19) ?_
        refine q_blk2 (pc2 := 60) (ls2 := [(3, .int 0), (0, .ref 3), (1, .int l1), (2, .int l2)]) (st2 := []) (h2 := (q_K0, z4.1, z4.2, q_R0)) [(.iconst 0, 0, 0, 0, 0, 0), (.istore_n 3, 0, 0, 0, 0, 0)] (by decide +kernel) rfl rfl ⟨trivial, trivial, trivial⟩ ?_
        obtain ⟨⟨⟨w16, w17, w18, z15⟩, tg21⟩, hl20, h⟩ := Option.bind_eq_some_iff.mp h
        dsimp only at h
        refine q_pick [1, 2, 3, 0] rfl ?_
        refine q_lp_ok (P := fun s => q_Ex _ 6 60 [(0, .ref 3), (1, .int s.1), (2, .int s.2.1), (3, .int s.2.2.1)] [] (q_K0, s.2.2.2.1, s.2.2.2.2, q_R0) _ _) (X := fun u s => (u = 0 → q_Ex _ 6 130 [(0, .ref 3), (1, .int s.1), (2, .int s.2.1), (3, .int s.2.2.1)] [] (q_K0, s.2.2.2.1, s.2.2.2.2, q_R0) _ _) ∧ (u = 1 → q_Ex _ 6 145 [(0, .ref 3), (1, .int s.1), (2, .int s.2.1), (3, .int s.2.2.1)] [] (q_K0, s.2.2.2.1, s.2.2.2.2, q_R0) _ _)) (fun s s2 t hh k0 kx => b_X0_markRing_60 hh k0 (fun e => (kx 0 e).1 rfl) (fun e => (kx 1 e).2 rfl)) hl20 ?_
        refine ⟨?_, ?_⟩
        · intro e_tg21
          subst e_tg21
          rw [if_pos rfl] at h
          show q_Ex _ 6 130 [(0, .ref 3), (1, .int w16), (2, .int w17), (3, .int w18)] [] (q_K0, z15.1, z15.2, q_R0) _ _
          cases h
          exact q_vret rfl (by decide +kernel)
        · intro e_tg21
          subst e_tg21
          rw [if_neg (by decide)] at h
          rw [if_pos rfl] at h
          show q_Ex _ 6 145 [(0, .ref 3), (1, .int w16), (2, .int w17), (3, .int w18)] [] (q_K0, z15.1, z15.2, q_R0) _ _
          cases h
          exact q_vret rfl (by decide +kernel)
      · rw [if_neg c26_3] at h
        cases h
        exact q_vret rfl (by decide +kernel)
    · rw [if_neg c8_2] at h
      cases h
      exact q_vret rfl (by decide +kernel)
def T_X0_numberClasses_71 (z : q_Z) (l1 : Int32) : Option ((Int32 × q_Z) × Nat) :=
  some ((l1 + 1, z), 0)
set_option maxRecDepth 100000 in
set_option maxHeartbeats 4000000 in
theorem t_X0_numberClasses_71 {z : q_Z} {l1 : Int32} {s2 : Int32 × q_Z} {t : Nat} {r : Option Value} {h2 : q_H} (h : T_X0_numberClasses_71 z l1 = some (s2, t)) (k0 : t = 0 → q_Ex none 5 7 [(0, .ref 3), (1, .int s2.1)] [] (q_K0, s2.2.1, s2.2.2, q_R0) r h2) (k1 : t = 1 → q_Ex none 5 77 [(0, .ref 3), (1, .int s2.1)] [] (q_K0, s2.2.1, s2.2.2, q_R0) r h2) : q_Ex none 5 71 [(0, .ref 3), (1, .int l1)] [] (q_K0, z.1, z.2, q_R0) r h2 := by
  unfold T_X0_numberClasses_71 at h
  refine q_blk2 (pc2 := 74) (ls2 := [(1, .int (l1 + 1)), (0, .ref 3)]) (st2 := []) (h2 := (q_K0, z.1, z.2, q_R0)) [(.iinc 1 1, 0, 0, 0, 1, 0)] (by decide +kernel) rfl rfl ⟨trivial, trivial⟩ ?_
  refine q_goto (off := -67) (tgt := 7) (by decide +kernel) (by decide) ?_
  cases h
  refine q_pick [1, 0] rfl ?_
  exact k0 rfl
def B_X0_numberClasses_7 : Int32 × q_Z → Option ((Int32 × q_Z) × Nat) := fun (l1, z) =>
  if (z.1 3 9) ≤ l1 then
    some ((l1, z), 1)
  else
    if (128 : Int32) ≤ l1 then
      some ((l1, z), 1)
    else
      if 0 ≤ Int32.toInt l1 ∧ Int32.toInt l1 < 128 then
        if (z.1 8 (Int32.toNatClampNeg l1)) = (-1 : Int32) then
          if (128 : Int32) ≤ (z.1 3 10) then
            T_X0_numberClasses_71 z l1
          else
            if 0 ≤ Int32.toInt (z.1 3 10) ∧ Int32.toInt (z.1 3 10) < 128 then
              (F_X0_markRing (q_u2 z.1 9 (Int32.toNatClampNeg (z.1 3 10)) l1, z.2) l1 (z.1 3 10)).bind fun (_, z4) =>
                T_X0_numberClasses_71 (q_u2 z4.1 3 10 ((z4.1 3 10) + 1), z4.2) l1
            else none
        else
          T_X0_numberClasses_71 z l1
      else none
set_option maxRecDepth 100000 in
set_option maxHeartbeats 4000000 in
theorem b_X0_numberClasses_7 {s s2 : Int32 × q_Z} {t : Nat} {r : Option Value} {h2 : q_H} (h : B_X0_numberClasses_7 s = some (s2, t)) (k0 : t = 0 → q_Ex none 5 7 [(0, .ref 3), (1, .int s2.1)] [] (q_K0, s2.2.1, s2.2.2, q_R0) r h2) (k1 : t = 1 → q_Ex none 5 77 [(0, .ref 3), (1, .int s2.1)] [] (q_K0, s2.2.1, s2.2.2, q_R0) r h2) : q_Ex none 5 7 [(0, .ref 3), (1, .int s.1)] [] (q_K0, s.2.1, s.2.2, q_R0) r h2 := by
  unfold B_X0_numberClasses_7 at h
  obtain ⟨l1, z⟩ := s
  dsimp only at h
  show q_Ex none 5 7 [(0, .ref 3), (1, .int l1)] [] (q_K0, z.1, z.2, q_R0) r h2
  refine q_blk2 (pc2 := 12) (ls2 := [(0, .ref 3), (1, .int l1)]) (st2 := [.int (z.1 3 9), .int l1]) (h2 := (q_K0, z.1, z.2, q_R0)) [(.iload_n 1, 0, 0, 0, 0, 0), (.aload_n 0, 0, 0, 0, 0, 0), (.getfield 63, 0, 0, 9, 0, 0)] (by decide +kernel) rfl rfl ⟨trivial, trivial, rfl, trivial⟩ ?_
  refine q_ic_ge (off := 65) (tgt := 77) (by decide +kernel) (by decide) (fun c12_1 => ?_) (fun c12_1 => ?_)
  · rw [if_pos c12_1] at h
    cases h
    refine q_pick [0, 1] rfl ?_
    exact k1 rfl
  · rw [if_neg c12_1] at h
    refine q_blk2 (pc2 := 19) (ls2 := [(0, .ref 3), (1, .int l1)]) (st2 := [.int 128, .int l1]) (h2 := (q_K0, z.1, z.2, q_R0)) [(.iload_n 1, 0, 0, 0, 0, 0), (.sipush 128, 0, 0, 0, 128, 0)] (by decide +kernel) rfl rfl ⟨trivial, trivial, trivial⟩ ?_
    refine q_ic_ge (off := 58) (tgt := 77) (by decide +kernel) (by decide) (fun c19_2 => ?_) (fun c19_2 => ?_)
    · rw [if_pos c19_2] at h
      cases h
      refine q_pick [0, 1] rfl ?_
      exact k1 rfl
    · rw [if_neg c19_2] at h
      have b1 : 0 ≤ Int32.toInt l1 ∧ Int32.toInt l1 < 128 := by
        by_cases q : 0 ≤ Int32.toInt l1 ∧ Int32.toInt l1 < 128
        · exact q
        · rw [if_neg q] at h; cases h
      rw [if_pos b1] at h
      refine q_blk2 (pc2 := 29) (ls2 := [(0, .ref 3), (1, .int l1)]) (st2 := [.int (-1), .int (z.1 8 (Int32.toNatClampNeg l1))]) (h2 := (q_K0, z.1, z.2, q_R0)) [(.aload_n 0, 0, 0, 0, 0, 0), (.getfield 28, 0, 0, 4, 0, 0), (.iload_n 1, 0, 0, 0, 0, 0), (.iaload, 0, 0, 0, 0, 0), (.iconst (-1), 0, 0, 0, (-1), 0)] (by decide +kernel) rfl rfl ⟨trivial, rfl, trivial, ⟨_, rfl, vp_in_iff.mpr b1⟩, trivial, trivial⟩ ?_
      refine q_ic_ne (off := 42) (tgt := 71) (by decide +kernel) (by decide) (fun c29_3 => ?_) (fun c29_3 => ?_)
      · rw [if_neg c29_3] at h
        refine q_pick [0, 1] rfl ?_
        exact t_X0_numberClasses_71 h k0 k1
      · rw [if_pos c29_3] at h
        refine q_blk2 (pc2 := 39) (ls2 := [(0, .ref 3), (1, .int l1)]) (st2 := [.int 128, .int (z.1 3 10)]) (h2 := (q_K0, z.1, z.2, q_R0)) [(.aload_n 0, 0, 0, 0, 0, 0), (.getfield 47, 0, 0, 10, 0, 0), (.sipush 128, 0, 0, 0, 128, 0)] (by decide +kernel) rfl rfl ⟨trivial, rfl, trivial, trivial⟩ ?_
        refine q_ic_ge (off := 32) (tgt := 71) (by decide +kernel) (by decide) (fun c39_4 => ?_) (fun c39_4 => ?_)
        · rw [if_pos c39_4] at h
          refine q_pick [0, 1] rfl ?_
          exact t_X0_numberClasses_71 h k0 k1
        · rw [if_neg c39_4] at h
          have b2 : 0 ≤ Int32.toInt (z.1 3 10) ∧ Int32.toInt (z.1 3 10) < 128 := by
            by_cases q : 0 ≤ Int32.toInt (z.1 3 10) ∧ Int32.toInt (z.1 3 10) < 128
            · exact q
            · rw [if_neg q] at h; cases h
          rw [if_pos b2] at h
          refine q_blk2 (pc2 := 58) (ls2 := [(0, .ref 3), (1, .int l1)]) (st2 := [.int (z.1 3 10), .int l1, .ref 3]) (h2 := (q_K0, q_u2 z.1 9 (Int32.toNatClampNeg (z.1 3 10)) l1, z.2, q_R0)) [(.aload_n 0, 0, 0, 0, 0, 0), (.getfield 31, 0, 0, 5, 0, 0), (.aload_n 0, 0, 0, 0, 0, 0), (.getfield 47, 0, 0, 10, 0, 0), (.iload_n 1, 0, 0, 0, 0, 0), (.iastore, 0, 0, 0, 0, 0), (.aload_n 0, 0, 0, 0, 0, 0), (.iload_n 1, 0, 0, 0, 0, 0), (.aload_n 0, 0, 0, 0, 0, 0), (.getfield 47, 0, 0, 10, 0, 0)] (by decide +kernel) rfl rfl ⟨trivial, rfl, trivial, rfl, trivial, ⟨_, rfl, vp_in_iff.mpr b2⟩, trivial, trivial, trivial, rfl, trivial⟩ ?_
          obtain ⟨⟨_, z4⟩, hc5, h⟩ := Option.bind_eq_some_iff.mp h
          dsimp only at h
          refine q_cV0 (idx := 96) (h1 := (q_K0, z4.1, z4.2, q_R0)) [.int (z.1 3 10), .int l1, .ref 3] 6 3 0 [.int l1, .int (z.1 3 10)] [] rfl (by decide +kernel) (by decide +kernel) rfl (Nat.le_of_ble_eq_true rfl) rfl (by decide) (by decide +kernel) (by decide +kernel) (s_X0_markRing hc5) ?_
          refine q_blk2 (pc2 := 71) (ls2 := [(0, .ref 3), (1, .int l1)]) (st2 := []) (h2 := (q_K0, q_u2 z4.1 3 10 ((z4.1 3 10) + 1), z4.2, q_R0)) [(.aload_n 0, 0, 0, 0, 0, 0), (.dup, 0, 0, 0, 0, 0), (.getfield 47, 0, 0, 10, 0, 0), (.iconst 1, 0, 0, 0, 1, 0), (.iadd, 0, 0, 0, 0, 0), (.putfield 47, 0, 0, 10, 0, 0)] (by decide +kernel) rfl rfl ⟨trivial, trivial, rfl, trivial, trivial, ⟨rfl, rfl, rfl⟩, trivial⟩ ?_
          refine q_pick [0, 1] rfl ?_
          exact t_X0_numberClasses_71 h k0 k1
/-- RootForms$ClassTable.numberClasses()V -/
def F_X0_numberClasses (z : q_Z) : Option (Unit × q_Z) :=
  (q_lp (B_X0_numberClasses_7) q_fu (0, (q_u2 z.1 3 10 0, z.2))).bind fun ((w7, z6), tg) =>
    if tg = 0 then
      some ((), z6)
    else none
set_option maxRecDepth 100000 in
set_option maxHeartbeats 4000000 in
theorem s_X0_numberClasses {z zR : q_Z} {rv : Unit} (h : F_X0_numberClasses z = some (rv, zR)) : q_Ca 5 [.ref 3] (q_K0, z.1, z.2, q_R0) none (q_K0, zR.1, zR.2, q_R0) := by
  refine q_Ca_of (by decide) (Nat.le_of_ble_eq_true rfl) ?_
  show q_Ex none 5 0 [(0, .ref 3)] [] (q_K0, z.1, z.2, q_R0) _ _
  unfold F_X0_numberClasses at h
  refine q_blk2 (pc2 := 7) (ls2 := [(1, .int 0), (0, .ref 3)]) (st2 := []) (h2 := (q_K0, q_u2 z.1 3 10 0, z.2, q_R0)) [(.aload_n 0, 0, 0, 0, 0, 0), (.iconst 0, 0, 0, 0, 0, 0), (.putfield 47, 0, 0, 10, 0, 0), (.iconst 0, 0, 0, 0, 0, 0), (.istore_n 1, 0, 0, 0, 0, 0)] (by decide +kernel) rfl rfl ⟨trivial, trivial, ⟨rfl, rfl, rfl⟩, trivial, trivial, trivial⟩ ?_
  obtain ⟨⟨⟨w7, z6⟩, tg9⟩, hl8, h⟩ := Option.bind_eq_some_iff.mp h
  dsimp only at h
  refine q_pick [1, 0] rfl ?_
  refine q_lp_ok (P := fun s => q_Ex _ 5 7 [(0, .ref 3), (1, .int s.1)] [] (q_K0, s.2.1, s.2.2, q_R0) _ _) (X := fun u s => (u = 0 → q_Ex _ 5 77 [(0, .ref 3), (1, .int s.1)] [] (q_K0, s.2.1, s.2.2, q_R0) _ _)) (fun s s2 t hh k0 kx => b_X0_numberClasses_7 hh k0 (fun e => (kx 0 e) rfl)) hl8 ?_
  · intro e_tg9
    subst e_tg9
    rw [if_pos rfl] at h
    show q_Ex _ 5 77 [(0, .ref 3), (1, .int w7)] [] (q_K0, z6.1, z6.2, q_R0) _ _
    cases h
    exact q_vret rfl (by decide +kernel)
/-- RootForms$ClassTable.prepare()V -/
def F_X0_prepare (z : q_Z) : Option (Unit × q_Z) :=
  if (z.1 3 11) = (z.1 4 0) then
    some ((), z)
  else
    (F_X0_listLeast (q_u2 z.1 3 11 (z.1 4 0), z.2)).bind fun (_, z2) =>
      (F_X0_numberClasses z2).bind fun (_, z4) =>
        some ((), z4)
set_option maxRecDepth 100000 in
set_option maxHeartbeats 4000000 in
theorem s_X0_prepare {z zR : q_Z} {rv : Unit} (h : F_X0_prepare z = some (rv, zR)) : q_Ca 2 [.ref 3] (q_K0, z.1, z.2, q_R0) none (q_K0, zR.1, zR.2, q_R0) := by
  refine q_Ca_of (by decide) (Nat.le_of_ble_eq_true rfl) ?_
  show q_Ex none 2 0 [(0, .ref 3)] [] (q_K0, z.1, z.2, q_R0) _ _
  unfold F_X0_prepare at h
  refine q_blk2 (pc2 := 11) (ls2 := [(0, .ref 3)]) (st2 := [.int (z.1 4 0), .int (z.1 3 11)]) (h2 := (q_K0, z.1, z.2, q_R0)) [(.aload_n 0, 0, 0, 0, 0, 0), (.getfield 51, 0, 0, 11, 0, 0), (.aload_n 0, 0, 0, 0, 0, 0), (.getfield 12, 0, 0, 0, 0, 0), (.getfield 54, 0, 2, 0, 0, 0)] (by decide +kernel) rfl rfl ⟨trivial, rfl, trivial, rfl, rfl, trivial⟩ ?_
  refine q_ic_ne (off := 4) (tgt := 15) (by decide +kernel) (by decide) (fun c11_1 => ?_) (fun c11_1 => ?_)
  · rw [if_neg c11_1] at h
    refine q_blk2 (pc2 := 27) (ls2 := [(0, .ref 3)]) (st2 := [.ref 3]) (h2 := (q_K0, q_u2 z.1 3 11 (z.1 4 0), z.2, q_R0)) [(.aload_n 0, 0, 0, 0, 0, 0), (.aload_n 0, 0, 0, 0, 0, 0), (.getfield 12, 0, 0, 0, 0, 0), (.getfield 54, 0, 2, 0, 0, 0), (.putfield 51, 0, 0, 11, 0, 0), (.aload_n 0, 0, 0, 0, 0, 0)] (by decide +kernel) rfl rfl ⟨trivial, trivial, rfl, rfl, ⟨rfl, rfl, rfl⟩, trivial, trivial⟩ ?_
    obtain ⟨⟨_, z2⟩, hc5, h⟩ := Option.bind_eq_some_iff.mp h
    dsimp only at h
    refine q_cV0 (idx := 57) (h1 := (q_K0, z2.1, z2.2, q_R0)) [.ref 3] 3 3 0 [] [] rfl (by decide +kernel) (by decide +kernel) rfl (Nat.le_of_ble_eq_true rfl) rfl (by decide) (by decide +kernel) (by decide +kernel) (s_X0_listLeast hc5) ?_
    refine q_blk2 (pc2 := 31) (ls2 := [(0, .ref 3)]) (st2 := [.ref 3]) (h2 := (q_K0, z2.1, z2.2, q_R0)) [(.aload_n 0, 0, 0, 0, 0, 0)] (by decide +kernel) rfl rfl ⟨trivial, trivial⟩ ?_
    obtain ⟨⟨_, z4⟩, hc6, h⟩ := Option.bind_eq_some_iff.mp h
    dsimp only at h
    refine q_cV0 (idx := 60) (h1 := (q_K0, z4.1, z4.2, q_R0)) [.ref 3] 5 3 0 [] [] rfl (by decide +kernel) (by decide +kernel) rfl (Nat.le_of_ble_eq_true rfl) rfl (by decide) (by decide +kernel) (by decide +kernel) (s_X0_numberClasses hc6) ?_
    cases h
    exact q_vret rfl (by decide +kernel)
  · rw [if_pos c11_1] at h
    cases h
    exact q_vret rfl (by decide +kernel)
def T_X0_find_42 (z : q_Z) (l2 : Int32) : Option ((Int32 × q_Z) × Nat) :=
  (F_X2_advance 10 z).bind fun (r3, z4) =>
    some ((l2 + 1, z4), 0)
set_option maxRecDepth 100000 in
set_option maxHeartbeats 4000000 in
theorem t_X0_find_42 {z : q_Z} {l2 : Int32} {s2 : Int32 × q_Z} {t : Nat} {r : Option Value} {h2 : q_H} (h : T_X0_find_42 z l2 = some (s2, t)) (k0 : t = 0 → q_Ex none 8 10 [(0, .ref 3), (2, .int s2.1)] [] (q_K0, s2.2.1, s2.2.2, q_R0) r h2) (k1 : t = 1 → q_Ex none 8 60 [(0, .ref 3), (2, .int s2.1)] [] (q_K0, s2.2.1, s2.2.2, q_R0) r h2) : q_Ex none 8 42 [(0, .ref 3), (2, .int l2)] [] (q_K0, z.1, z.2, q_R0) r h2 := by
  unfold T_X0_find_42 at h
  refine q_blk2 (pc2 := 50) (ls2 := [(0, .ref 3), (2, .int l2)]) (st2 := [.ref 10, .ref 4]) (h2 := (q_K0, z.1, z.2, q_R0)) [(.aload_n 0, 0, 0, 0, 0, 0), (.getfield 12, 0, 0, 0, 0, 0), (.aload_n 0, 0, 0, 0, 0, 0), (.getfield 37, 0, 0, 6, 0, 0)] (by decide +kernel) rfl rfl ⟨trivial, rfl, trivial, rfl, trivial⟩ ?_
  obtain ⟨⟨r3, z4⟩, hc5, h⟩ := Option.bind_eq_some_iff.mp h
  dsimp only at h
  refine q_cV1 (idx := 104) (v := .long r3) (h1 := (q_K0, z4.1, z4.2, q_R0)) [.ref 10, .ref 4] 21 4 2 [.ref 10] [] rfl (by decide +kernel) (by decide +kernel) rfl (Nat.le_of_ble_eq_true rfl) rfl (by decide) (by decide +kernel) (by decide +kernel) (s_X2_advance rfl hc5) ?_
  refine q_blk2 (pc2 := 57) (ls2 := [(2, .int (l2 + 1)), (0, .ref 3)]) (st2 := []) (h2 := (q_K0, z4.1, z4.2, q_R0)) [(.pop2, 0, 0, 0, 0, 0), (.iinc 2 1, 0, 0, 0, 1, 0)] (by decide +kernel) rfl rfl ⟨trivial, trivial, trivial⟩ ?_
  refine q_goto (off := -47) (tgt := 10) (by decide +kernel) (by decide) ?_
  cases h
  refine q_pick [1, 0] rfl ?_
  exact k0 rfl
def B_X0_find_10 : Int32 × q_Z → Option ((Int32 × q_Z) × Nat) := fun (l2, z) =>
  if (100000 : Int32) ≤ l2 then
    some ((l2, z), 1)
  else
    if (z.2 10 0) < (0 : Int64) then
      T_X0_find_42 z l2
    else
      (F_X2_isLeast 10 z).bind fun (r6, z7) =>
        if r6 = (0 : Int32) then
          T_X0_find_42 z7 l2
        else
          some ((l2, z7), 1)
set_option maxRecDepth 100000 in
set_option maxHeartbeats 4000000 in
theorem b_X0_find_10 {s s2 : Int32 × q_Z} {t : Nat} {r : Option Value} {h2 : q_H} (h : B_X0_find_10 s = some (s2, t)) (k0 : t = 0 → q_Ex none 8 10 [(0, .ref 3), (2, .int s2.1)] [] (q_K0, s2.2.1, s2.2.2, q_R0) r h2) (k1 : t = 1 → q_Ex none 8 60 [(0, .ref 3), (2, .int s2.1)] [] (q_K0, s2.2.1, s2.2.2, q_R0) r h2) : q_Ex none 8 10 [(0, .ref 3), (2, .int s.1)] [] (q_K0, s.2.1, s.2.2, q_R0) r h2 := by
  unfold B_X0_find_10 at h
  obtain ⟨l2, z⟩ := s
  dsimp only at h
  show q_Ex none 8 10 [(0, .ref 3), (2, .int l2)] [] (q_K0, z.1, z.2, q_R0) r h2
  refine q_blk2 (pc2 := 13) (ls2 := [(0, .ref 3), (2, .int l2)]) (st2 := [.int 100000, .int l2]) (h2 := (q_K0, z.1, z.2, q_R0)) [(.iload_n 2, 0, 0, 0, 0, 0), (.ldc 126, 0, 0, 0, 100000, 0)] (by decide +kernel) rfl rfl ⟨trivial, trivial, trivial⟩ ?_
  refine q_ic_ge (off := 47) (tgt := 60) (by decide +kernel) (by decide) (fun c13_1 => ?_) (fun c13_1 => ?_)
  · rw [if_pos c13_1] at h
    cases h
    refine q_pick [0, 1] rfl ?_
    exact k1 rfl
  · rw [if_neg c13_1] at h
    refine q_blk2 (pc2 := 24) (ls2 := [(0, .ref 3), (2, .int l2)]) (st2 := [.long 0, .long (z.2 10 0)]) (h2 := (q_K0, z.1, z.2, q_R0)) [(.aload_n 0, 0, 0, 0, 0, 0), (.getfield 37, 0, 0, 6, 0, 0), (.getfield 108, 0, 1, 0, 0, 0), (.lconst 0, 0, 0, 0, 0, 0)] (by decide +kernel) rfl rfl ⟨trivial, rfl, rfl, trivial, trivial⟩ ?_
    refine q_lc_lt (off := 17) (tgt := 42) (by decide +kernel) (by decide +kernel) (by decide) (fun c24_2 => ?_) (fun c24_2 => ?_)
    · rw [if_pos c24_2] at h
      refine q_pick [0, 1] rfl ?_
      exact t_X0_find_42 h k0 k1
    · rw [if_neg c24_2] at h
      refine q_blk2 (pc2 := 36) (ls2 := [(0, .ref 3), (2, .int l2)]) (st2 := [.ref 10, .ref 4]) (h2 := (q_K0, z.1, z.2, q_R0)) [(.aload_n 0, 0, 0, 0, 0, 0), (.getfield 12, 0, 0, 0, 0, 0), (.aload_n 0, 0, 0, 0, 0, 0), (.getfield 37, 0, 0, 6, 0, 0)] (by decide +kernel) rfl rfl ⟨trivial, rfl, trivial, rfl, trivial⟩ ?_
      obtain ⟨⟨r6, z7⟩, hc8, h⟩ := Option.bind_eq_some_iff.mp h
      dsimp only at h
      refine q_cV1 (idx := 85) (v := .int r6) (h1 := (q_K0, z7.1, z7.2, q_R0)) [.ref 10, .ref 4] 20 4 2 [.ref 10] [] rfl (by decide +kernel) (by decide +kernel) rfl (Nat.le_of_ble_eq_true rfl) rfl (by decide) (by decide +kernel) (by decide +kernel) (s_X2_isLeast rfl hc8) ?_
      refine q_if_ne (off := 21) (tgt := 60) (by decide +kernel) (by decide) (fun c39_3 => ?_) (fun c39_3 => ?_)
      · rw [if_neg c39_3] at h
        cases h
        refine q_pick [0, 1] rfl ?_
        exact k1 rfl
      · rw [if_pos c39_3] at h
        refine q_pick [0, 1] rfl ?_
        exact t_X0_find_42 h k0 k1
def T_X0_find_90 (z : q_Z) : Option (Int32 × q_Z) :=
  some ((-1), z)
set_option maxRecDepth 100000 in
set_option maxHeartbeats 4000000 in
theorem t_X0_find_90 {z zR : q_Z} {rv : Int32} (h : T_X0_find_90 z = some (rv, zR)) : q_Ex none 8 90 [] [] (q_K0, z.1, z.2, q_R0) (some (.int rv)) (q_K0, zR.1, zR.2, q_R0) := by
  unfold T_X0_find_90 at h
  refine q_blk2 (pc2 := 91) (ls2 := []) (st2 := [.int (-1)]) (h2 := (q_K0, z.1, z.2, q_R0)) [(.iconst (-1), 0, 0, 0, (-1), 0)] (by decide +kernel) rfl rfl ⟨trivial, trivial⟩ ?_
  refine q_goto (off := 9) (tgt := 100) (by decide +kernel) (by decide) ?_
  cases h
  exact q_iret .int rfl rfl (by decide +kernel)
def T_X0_find_60 (z : q_Z) : Option (Int32 × q_Z) :=
  (F_X0_indexOf z (z.2 10 0) (z.2 10 1)).bind fun (r11, z12) =>
    if r11 < (0 : Int32) then
      T_X0_find_90 z12
    else
      if r11 < (128 : Int32) then
        if 0 ≤ Int32.toInt r11 ∧ Int32.toInt r11 < 128 then
          some (z12.1 8 (Int32.toNatClampNeg r11), z12)
        else none
      else
        T_X0_find_90 z12
set_option maxRecDepth 100000 in
set_option maxHeartbeats 4000000 in
theorem t_X0_find_60 {z zR : q_Z} {rv : Int32} (h : T_X0_find_60 z = some (rv, zR)) : q_Ex none 8 60 [(0, .ref 3)] [] (q_K0, z.1, z.2, q_R0) (some (.int rv)) (q_K0, zR.1, zR.2, q_R0) := by
  unfold T_X0_find_60 at h
  refine q_blk2 (pc2 := 75) (ls2 := [(0, .ref 3)]) (st2 := [.long (z.2 10 1), .long (z.2 10 0), .ref 3]) (h2 := (q_K0, z.1, z.2, q_R0)) [(.aload_n 0, 0, 0, 0, 0, 0), (.aload_n 0, 0, 0, 0, 0, 0), (.getfield 37, 0, 0, 6, 0, 0), (.getfield 108, 0, 1, 0, 0, 0), (.aload_n 0, 0, 0, 0, 0, 0), (.getfield 37, 0, 0, 6, 0, 0), (.getfield 112, 0, 1, 1, 0, 0)] (by decide +kernel) rfl rfl ⟨trivial, trivial, rfl, rfl, trivial, rfl, rfl, trivial⟩ ?_
  obtain ⟨⟨r11, z12⟩, hc14, h⟩ := Option.bind_eq_some_iff.mp h
  dsimp only at h
  refine q_cV1 (idx := 115) (v := .int r11) (h1 := (q_K0, z12.1, z12.2, q_R0)) [.long (z.2 10 1), .long (z.2 10 0), .ref 3] 7 3 0 [.long (z.2 10 0), .long (z.2 10 1)] [] rfl (by decide +kernel) (by decide +kernel) rfl (Nat.le_of_ble_eq_true rfl) rfl (by decide) (by decide +kernel) (by decide +kernel) (s_X0_indexOf hc14) ?_
  refine q_blk2 (pc2 := 80) (ls2 := [(2, .int r11), (0, .ref 3)]) (st2 := [.int r11]) (h2 := (q_K0, z12.1, z12.2, q_R0)) [(.istore_n 2, 0, 0, 0, 0, 0), (.iload_n 2, 0, 0, 0, 0, 0)] (by decide +kernel) rfl rfl ⟨trivial, trivial, trivial⟩ ?_
  refine q_if_lt (off := 10) (tgt := 90) (by decide +kernel) (by decide) (fun c80_1 => ?_) (fun c80_1 => ?_)
  · rw [if_pos c80_1] at h
    refine q_pick [] rfl ?_
    exact t_X0_find_90 h
  · rw [if_neg c80_1] at h
    refine q_blk2 (pc2 := 87) (ls2 := [(2, .int r11), (0, .ref 3)]) (st2 := [.int 128, .int r11]) (h2 := (q_K0, z12.1, z12.2, q_R0)) [(.iload_n 2, 0, 0, 0, 0, 0), (.sipush 128, 0, 0, 0, 128, 0)] (by decide +kernel) rfl rfl ⟨trivial, trivial, trivial⟩ ?_
    refine q_ic_lt (off := 7) (tgt := 94) (by decide +kernel) (by decide) (fun c87_2 => ?_) (fun c87_2 => ?_)
    · rw [if_pos c87_2] at h
      have b13 : 0 ≤ Int32.toInt r11 ∧ Int32.toInt r11 < 128 := by
        by_cases q : 0 ≤ Int32.toInt r11 ∧ Int32.toInt r11 < 128
        · exact q
        · rw [if_neg q] at h; cases h
      rw [if_pos b13] at h
      refine q_blk2 (pc2 := 100) (ls2 := [(2, .int r11), (0, .ref 3)]) (st2 := [.int (z12.1 8 (Int32.toNatClampNeg r11))]) (h2 := (q_K0, z12.1, z12.2, q_R0)) [(.aload_n 0, 0, 0, 0, 0, 0), (.getfield 28, 0, 0, 4, 0, 0), (.iload_n 2, 0, 0, 0, 0, 0), (.iaload, 0, 0, 0, 0, 0)] (by decide +kernel) rfl rfl ⟨trivial, rfl, trivial, ⟨_, rfl, vp_in_iff.mpr b13⟩, trivial⟩ ?_
      cases h
      exact q_iret .int rfl rfl (by decide +kernel)
    · rw [if_neg c87_2] at h
      refine q_pick [] rfl ?_
      exact t_X0_find_90 h
/-- RootForms$ClassTable.find(LRootForms$Form;)I -/
def F_X0_find (o1 : Nat) (z : q_Z) : Option (Int32 × q_Z) :=
  (F_X1_copy 10 o1 z).bind fun (_, z2) =>
    (q_lp (B_X0_find_10) q_fu (0, z2)).bind fun ((w10, z9), tg) =>
      if tg = 0 then
        T_X0_find_60 z9
      else none
set_option maxRecDepth 100000 in
set_option maxHeartbeats 4000000 in
theorem s_X0_find {o1 : Nat} (ho1 : q_kk o1 = some (.inl 1)) {z zR : q_Z} {rv : Int32} (h : F_X0_find o1 z = some (rv, zR)) : q_Ca 8 [.ref 3, .ref o1] (q_K0, z.1, z.2, q_R0) (some (.int rv)) (q_K0, zR.1, zR.2, q_R0) := by
  refine q_Ca_of (by decide) (Nat.le_of_ble_eq_true rfl) ?_
  show q_Ex none 8 0 [(0, .ref 3), (1, .ref o1)] [] (q_K0, z.1, z.2, q_R0) _ _
  unfold F_X0_find at h
  refine q_blk2 (pc2 := 5) (ls2 := [(0, .ref 3), (1, .ref o1)]) (st2 := [.ref o1, .ref 10]) (h2 := (q_K0, z.1, z.2, q_R0)) [(.aload_n 0, 0, 0, 0, 0, 0), (.getfield 37, 0, 0, 6, 0, 0), (.aload_n 1, 0, 0, 0, 0, 0)] (by decide +kernel) rfl rfl ⟨trivial, rfl, trivial, trivial⟩ ?_
  obtain ⟨⟨_, z2⟩, hc15, h⟩ := Option.bind_eq_some_iff.mp h
  dsimp only at h
  refine q_cV0 (idx := 122) (h1 := (q_K0, z2.1, z2.2, q_R0)) [.ref o1, .ref 10] 13 10 1 [.ref o1] [] rfl (by decide +kernel) (by decide +kernel) rfl (Nat.le_of_ble_eq_true rfl) rfl (by decide) (by decide +kernel) (by decide +kernel) (s_X1_copy rfl ho1 hc15) ?_
  refine q_blk2 (pc2 := 10) (ls2 := [(2, .int 0), (0, .ref 3), (1, .ref o1)]) (st2 := []) (h2 := (q_K0, z2.1, z2.2, q_R0)) [(.iconst 0, 0, 0, 0, 0, 0), (.istore_n 2, 0, 0, 0, 0, 0)] (by decide +kernel) rfl rfl ⟨trivial, trivial, trivial⟩ ?_
  obtain ⟨⟨⟨w10, z9⟩, tg17⟩, hl16, h⟩ := Option.bind_eq_some_iff.mp h
  dsimp only at h
  refine q_pick [1, 0] rfl ?_
  refine q_lp_ok (P := fun s => q_Ex _ 8 10 [(0, .ref 3), (2, .int s.1)] [] (q_K0, s.2.1, s.2.2, q_R0) _ _) (X := fun u s => (u = 0 → q_Ex _ 8 60 [(0, .ref 3), (2, .int s.1)] [] (q_K0, s.2.1, s.2.2, q_R0) _ _)) (fun s s2 t hh k0 kx => b_X0_find_10 hh k0 (fun e => (kx 0 e) rfl)) hl16 ?_
  · intro e_tg17
    subst e_tg17
    rw [if_pos rfl] at h
    show q_Ex _ 8 60 [(0, .ref 3), (2, .int w10)] [] (q_K0, z9.1, z9.2, q_R0) _ _
    refine q_pick [0] rfl ?_
    exact t_X0_find_60 h
/-- RootForms$ClassTable.copyHead(ILRootForms$Form;)V -/
def F_X0_copyHead (o2 : Nat) (z : q_Z) (l1 : Int32) : Option (Unit × q_Z) :=
  (F_X0_hasClass z l1).bind fun (r1, z2) =>
    if r1 = (0 : Int32) then
      some ((), z2)
    else
      if 0 ≤ Int32.toInt l1 ∧ Int32.toInt l1 < 128 then
        if (z2.1 9 (Int32.toNatClampNeg l1)) < (0 : Int32) then
          some ((), z2)
        else
          if (128 : Int32) ≤ (z2.1 9 (Int32.toNatClampNeg l1)) then
            some ((), z2)
          else
            if 0 ≤ Int32.toInt (z2.1 9 (Int32.toNatClampNeg l1)) ∧ Int32.toInt (z2.1 9 (Int32.toNatClampNeg l1)) < 128 then
              (F_X1_put o2 z2 (Int32.toInt64 (z2.1 5 (Int32.toNatClampNeg (z2.1 9 (Int32.toNatClampNeg l1))))) (Int32.toInt64 (z2.1 6 (Int32.toNatClampNeg (z2.1 9 (Int32.toNatClampNeg l1))))) (Int32.toInt64 (z2.1 7 (Int32.toNatClampNeg (z2.1 9 (Int32.toNatClampNeg l1)))))).bind fun (_, z6) =>
                some ((), z6)
            else none
      else none
set_option maxRecDepth 100000 in
set_option maxHeartbeats 4000000 in
theorem s_X0_copyHead {o2 : Nat} (ho2 : q_kk o2 = some (.inl 1)) {z zR : q_Z} {l1 : Int32} {rv : Unit} (h : F_X0_copyHead o2 z l1 = some (rv, zR)) : q_Ca 9 [.ref 3, .int l1, .ref o2] (q_K0, z.1, z.2, q_R0) none (q_K0, zR.1, zR.2, q_R0) := by
  refine q_Ca_of (by decide) (Nat.le_of_ble_eq_true rfl) ?_
  show q_Ex none 9 0 [(0, .ref 3), (1, .int l1), (2, .ref o2)] [] (q_K0, z.1, z.2, q_R0) _ _
  unfold F_X0_copyHead at h
  refine q_blk2 (pc2 := 2) (ls2 := [(0, .ref 3), (1, .int l1), (2, .ref o2)]) (st2 := [.int l1, .ref 3]) (h2 := (q_K0, z.1, z.2, q_R0)) [(.aload_n 0, 0, 0, 0, 0, 0), (.iload_n 1, 0, 0, 0, 0, 0)] (by decide +kernel) rfl rfl ⟨trivial, trivial, trivial⟩ ?_
  obtain ⟨⟨r1, z2⟩, hc7, h⟩ := Option.bind_eq_some_iff.mp h
  dsimp only at h
  refine q_cV1 (idx := 127) (v := .int r1) (h1 := (q_K0, z2.1, z2.2, q_R0)) [.int l1, .ref 3] 1 3 0 [.int l1] [] rfl (by decide +kernel) (by decide +kernel) rfl (Nat.le_of_ble_eq_true rfl) rfl (by decide) (by decide +kernel) (by decide +kernel) (s_X0_hasClass hc7) ?_
  refine q_if_ne (off := 4) (tgt := 9) (by decide +kernel) (by decide) (fun c5_1 => ?_) (fun c5_1 => ?_)
  · rw [if_neg c5_1] at h
    have b3 : 0 ≤ Int32.toInt l1 ∧ Int32.toInt l1 < 128 := by
      by_cases q : 0 ≤ Int32.toInt l1 ∧ Int32.toInt l1 < 128
      · exact q
      · rw [if_neg q] at h; cases h
    rw [if_pos b3] at h
    refine q_blk2 (pc2 := 17) (ls2 := [(3, .int (z2.1 9 (Int32.toNatClampNeg l1))), (0, .ref 3), (1, .int l1), (2, .ref o2)]) (st2 := [.int (z2.1 9 (Int32.toNatClampNeg l1))]) (h2 := (q_K0, z2.1, z2.2, q_R0)) [(.aload_n 0, 0, 0, 0, 0, 0), (.getfield 31, 0, 0, 5, 0, 0), (.iload_n 1, 0, 0, 0, 0, 0), (.iaload, 0, 0, 0, 0, 0), (.istore_n 3, 0, 0, 0, 0, 0), (.iload_n 3, 0, 0, 0, 0, 0)] (by decide +kernel) rfl rfl ⟨trivial, rfl, trivial, ⟨_, rfl, vp_in_iff.mpr b3⟩, trivial, trivial, trivial⟩ ?_
    refine q_if_lt (off := 35) (tgt := 52) (by decide +kernel) (by decide) (fun c17_2 => ?_) (fun c17_2 => ?_)
    · rw [if_pos c17_2] at h
      cases h
      exact q_vret rfl (by decide +kernel)
    · rw [if_neg c17_2] at h
      refine q_blk2 (pc2 := 24) (ls2 := [(3, .int (z2.1 9 (Int32.toNatClampNeg l1))), (0, .ref 3), (1, .int l1), (2, .ref o2)]) (st2 := [.int 128, .int (z2.1 9 (Int32.toNatClampNeg l1))]) (h2 := (q_K0, z2.1, z2.2, q_R0)) [(.iload_n 3, 0, 0, 0, 0, 0), (.sipush 128, 0, 0, 0, 128, 0)] (by decide +kernel) rfl rfl ⟨trivial, trivial, trivial⟩ ?_
      refine q_ic_ge (off := 28) (tgt := 52) (by decide +kernel) (by decide) (fun c24_3 => ?_) (fun c24_3 => ?_)
      · rw [if_pos c24_3] at h
        cases h
        exact q_vret rfl (by decide +kernel)
      · rw [if_neg c24_3] at h
        have b4 : 0 ≤ Int32.toInt (z2.1 9 (Int32.toNatClampNeg l1)) ∧ Int32.toInt (z2.1 9 (Int32.toNatClampNeg l1)) < 128 := by
          by_cases q : 0 ≤ Int32.toInt (z2.1 9 (Int32.toNatClampNeg l1)) ∧ Int32.toInt (z2.1 9 (Int32.toNatClampNeg l1)) < 128
          · exact q
          · rw [if_neg q] at h; cases h
        rw [if_pos b4] at h
        refine q_blk2 (pc2 := 49) (ls2 := [(3, .int (z2.1 9 (Int32.toNatClampNeg l1))), (0, .ref 3), (1, .int l1), (2, .ref o2)]) (st2 := [.long (Int32.toInt64 (z2.1 7 (Int32.toNatClampNeg (z2.1 9 (Int32.toNatClampNeg l1))))), .long (Int32.toInt64 (z2.1 6 (Int32.toNatClampNeg (z2.1 9 (Int32.toNatClampNeg l1))))), .long (Int32.toInt64 (z2.1 5 (Int32.toNatClampNeg (z2.1 9 (Int32.toNatClampNeg l1))))), .ref o2]) (h2 := (q_K0, z2.1, z2.2, q_R0)) [(.aload_n 2, 0, 0, 0, 0, 0), (.aload_n 0, 0, 0, 0, 0, 0), (.getfield 18, 0, 0, 1, 0, 0), (.iload_n 3, 0, 0, 0, 0, 0), (.iaload, 0, 0, 0, 0, 0), (.i2l, 0, 0, 0, 0, 0), (.aload_n 0, 0, 0, 0, 0, 0), (.getfield 22, 0, 0, 2, 0, 0), (.iload_n 3, 0, 0, 0, 0, 0), (.iaload, 0, 0, 0, 0, 0), (.i2l, 0, 0, 0, 0, 0), (.aload_n 0, 0, 0, 0, 0, 0), (.getfield 25, 0, 0, 3, 0, 0), (.iload_n 3, 0, 0, 0, 0, 0), (.iaload, 0, 0, 0, 0, 0), (.i2l, 0, 0, 0, 0, 0)] (by decide +kernel) rfl rfl ⟨trivial, trivial, rfl, trivial, ⟨_, rfl, vp_in_iff.mpr b4⟩, trivial, trivial, rfl, trivial, ⟨_, rfl, vp_in_iff.mpr b4⟩, trivial, trivial, rfl, trivial, ⟨_, rfl, vp_in_iff.mpr b4⟩, trivial, trivial⟩ ?_
        obtain ⟨⟨_, z6⟩, hc8, h⟩ := Option.bind_eq_some_iff.mp h
        dsimp only at h
        refine q_cV0 (idx := 100) (h1 := (q_K0, z6.1, z6.2, q_R0)) [.long (Int32.toInt64 (z2.1 7 (Int32.toNatClampNeg (z2.1 9 (Int32.toNatClampNeg l1))))), .long (Int32.toInt64 (z2.1 6 (Int32.toNatClampNeg (z2.1 9 (Int32.toNatClampNeg l1))))), .long (Int32.toInt64 (z2.1 5 (Int32.toNatClampNeg (z2.1 9 (Int32.toNatClampNeg l1))))), .ref o2] 12 o2 1 [.long (Int32.toInt64 (z2.1 5 (Int32.toNatClampNeg (z2.1 9 (Int32.toNatClampNeg l1))))), .long (Int32.toInt64 (z2.1 6 (Int32.toNatClampNeg (z2.1 9 (Int32.toNatClampNeg l1))))), .long (Int32.toInt64 (z2.1 7 (Int32.toNatClampNeg (z2.1 9 (Int32.toNatClampNeg l1)))))] [] rfl (by decide +kernel) (by decide +kernel) rfl (Nat.le_of_ble_eq_true rfl) ho2 (by decide) (by decide +kernel) (by decide +kernel) (s_X1_put ho2 hc8) ?_
        cases h
        exact q_vret rfl (by decide +kernel)
  · rw [if_pos c5_1] at h
    cases h
    exact q_vret rfl (by decide +kernel)
