/-! pure functions of the methods, and that the methods do what they say (written by wip/whole/dec.py) -/
def T_X9_unit_26 (z : q_Z) : Option (Int64 × q_Z) :=
  (F_X9_refuse z 1).bind fun (r1, z2) =>
    some (Int32.toInt64 r1, z2)
set_option maxRecDepth 100000 in
set_option maxHeartbeats 4000000 in
theorem t_X9_unit_26 {z zR : q_Z} {rv : Int64} (h : T_X9_unit_26 z = some (rv, zR)) : q_Ex none 78 26 [(0, .ref 1)] [] (q_K0, z.1, z.2, q_R0) (some (.long rv)) (q_K0, zR.1, zR.2, q_R0) := by
  unfold T_X9_unit_26 at h
  refine q_blk2 (pc2 := 28) (ls2 := [(0, .ref 1)]) (st2 := [.int 1, .ref 1]) (h2 := (q_K0, z.1, z.2, q_R0)) [(.aload_n 0, 0, 0, 0, 0, 0), (.iconst 1, 0, 0, 0, 1, 0)] (by decide +kernel) rfl rfl ⟨trivial, trivial, trivial⟩ ?_
  obtain ⟨⟨r1, z2⟩, hc3, h⟩ := Option.bind_eq_some_iff.mp h
  dsimp only at h
  refine q_cV1 (idx := 86) (v := .int r1) (h1 := (q_K0, z2.1, z2.2, q_R0)) [.int 1, .ref 1] 89 1 8 [.int 1] [] rfl (by decide +kernel) (by decide +kernel) rfl (Nat.le_of_ble_eq_true rfl) rfl (by decide) (by decide +kernel) (by decide +kernel) (s_X9_refuse hc3) ?_
  refine q_blk2 (pc2 := 32) (ls2 := [(0, .ref 1)]) (st2 := [.long (Int32.toInt64 r1)]) (h2 := (q_K0, z2.1, z2.2, q_R0)) [(.i2l, 0, 0, 0, 0, 0)] (by decide +kernel) rfl rfl ⟨trivial, trivial⟩ ?_
  cases h
  exact q_lret rfl (by decide +kernel)
def T_X9_unit_123 (z : q_Z) : Option (Int64 × q_Z) :=
  (F_X9_refuse z 6).bind fun (r6, z7) =>
    some (Int32.toInt64 r6, z7)
set_option maxRecDepth 100000 in
set_option maxHeartbeats 4000000 in
theorem t_X9_unit_123 {z zR : q_Z} {rv : Int64} (h : T_X9_unit_123 z = some (rv, zR)) : q_Ex none 78 123 [(0, .ref 1)] [] (q_K0, z.1, z.2, q_R0) (some (.long rv)) (q_K0, zR.1, zR.2, q_R0) := by
  unfold T_X9_unit_123 at h
  refine q_blk2 (pc2 := 126) (ls2 := [(0, .ref 1)]) (st2 := [.int 6, .ref 1]) (h2 := (q_K0, z.1, z.2, q_R0)) [(.aload_n 0, 0, 0, 0, 0, 0), (.bipush 6, 0, 0, 0, 6, 0)] (by decide +kernel) rfl rfl ⟨trivial, trivial, trivial⟩ ?_
  obtain ⟨⟨r6, z7⟩, hc8, h⟩ := Option.bind_eq_some_iff.mp h
  dsimp only at h
  refine q_cV1 (idx := 86) (v := .int r6) (h1 := (q_K0, z7.1, z7.2, q_R0)) [.int 6, .ref 1] 89 1 8 [.int 6] [] rfl (by decide +kernel) (by decide +kernel) rfl (Nat.le_of_ble_eq_true rfl) rfl (by decide) (by decide +kernel) (by decide +kernel) (s_X9_refuse hc8) ?_
  refine q_blk2 (pc2 := 130) (ls2 := [(0, .ref 1)]) (st2 := [.long (Int32.toInt64 r6)]) (h2 := (q_K0, z7.1, z7.2, q_R0)) [(.i2l, 0, 0, 0, 0, 0)] (by decide +kernel) rfl rfl ⟨trivial, trivial⟩ ?_
  cases h
  exact q_lret rfl (by decide +kernel)
/-- RootForms.unit(I)J -/
def F_X9_unit (z : q_Z) (l1 : Int32) : Option (Int64 × q_Z) :=
  if (0 : Int32) ≤ (z.1 4 0) then
    if l1 < (0 : Int32) then
      T_X9_unit_26 z
    else
      if l1 ≤ (2 : Int32) then
        (F_X5_goRound z (Int32.toInt64 (z.1 4 0)) (Int32.toInt64 ((z.1 4 1) - (((z.1 4 1) - (z.1 4 0)) &&& 1))) 2).bind fun (r4, z5) =>
          if (z5.1 125 9) = (0 : Int32) then
            if ((2 * (z5.2 125 5)) - ((Int32.toInt64 ((z.1 4 1) - (((z.1 4 1) - (z.1 4 0)) &&& 1))) * (z5.2 125 7))) ≤ (1000000000000000000 : Int64) then
              if l1 = (0 : Int32) then
                some ((2 * (z5.2 125 5)) - ((Int32.toInt64 ((z.1 4 1) - (((z.1 4 1) - (z.1 4 0)) &&& 1))) * (z5.2 125 7)), (q_u2 z5.1 1 9 0, z5.2))
              else
                if l1 = (1 : Int32) then
                  some (z5.2 125 7, (q_u2 z5.1 1 9 0, z5.2))
                else
                  if (r4 - r4 / 2 * 2) = (0 : Int32) then
                    some (4, (q_u2 z5.1 1 9 0, z5.2))
                  else
                    some ((-4), (q_u2 z5.1 1 9 0, z5.2))
            else
              T_X9_unit_123 z5
          else
            T_X9_unit_123 z5
      else
        T_X9_unit_26 z
  else
    (F_X9_refuse z 5).bind fun (r9, z10) =>
      some (Int32.toInt64 r9, z10)
set_option maxRecDepth 100000 in
set_option maxHeartbeats 4000000 in
theorem s_X9_unit {z zR : q_Z} {l1 : Int32} {rv : Int64} (h : F_X9_unit z l1 = some (rv, zR)) : q_Ca 78 [.ref 1, .int l1] (q_K0, z.1, z.2, q_R0) (some (.long rv)) (q_K0, zR.1, zR.2, q_R0) := by
  refine q_Ca_of (by decide) (Nat.le_of_ble_eq_true rfl) ?_
  show q_Ex none 78 0 [(0, .ref 1), (1, .int l1)] [] (q_K0, z.1, z.2, q_R0) _ _
  unfold F_X9_unit at h
  refine q_blk2 (pc2 := 7) (ls2 := [(0, .ref 1), (1, .int l1)]) (st2 := [.int (z.1 4 0)]) (h2 := (q_K0, z.1, z.2, q_R0)) [(.aload_n 0, 0, 0, 0, 0, 0), (.getfield 27, 0, 8, 2, 0, 0), (.getfield 151, 0, 2, 0, 0, 0)] (by decide +kernel) rfl rfl ⟨trivial, rfl, rfl, trivial⟩ ?_
  refine q_if_ge (off := 10) (tgt := 17) (by decide +kernel) (by decide) (fun c7_1 => ?_) (fun c7_1 => ?_)
  · rw [if_pos c7_1] at h
    refine q_blk2 (pc2 := 18) (ls2 := [(0, .ref 1), (1, .int l1)]) (st2 := [.int l1]) (h2 := (q_K0, z.1, z.2, q_R0)) [(.iload_n 1, 0, 0, 0, 0, 0)] (by decide +kernel) rfl rfl ⟨trivial, trivial⟩ ?_
    refine q_if_lt (off := 8) (tgt := 26) (by decide +kernel) (by decide) (fun c18_2 => ?_) (fun c18_2 => ?_)
    · rw [if_pos c18_2] at h
      refine q_pick [0] rfl ?_
      exact t_X9_unit_26 h
    · rw [if_neg c18_2] at h
      refine q_blk2 (pc2 := 23) (ls2 := [(0, .ref 1), (1, .int l1)]) (st2 := [.int 2, .int l1]) (h2 := (q_K0, z.1, z.2, q_R0)) [(.iload_n 1, 0, 0, 0, 0, 0), (.iconst 2, 0, 0, 0, 2, 0)] (by decide +kernel) rfl rfl ⟨trivial, trivial, trivial⟩ ?_
      refine q_ic_le (off := 10) (tgt := 33) (by decide +kernel) (by decide) (fun c23_3 => ?_) (fun c23_3 => ?_)
      · rw [if_pos c23_3] at h
        refine q_blk2 (pc2 := 76) (ls2 := [(2, .long (Int32.toInt64 ((z.1 4 1) - (((z.1 4 1) - (z.1 4 0)) &&& 1)))), (0, .ref 1), (1, .int l1)]) (st2 := [.long 2, .long (Int32.toInt64 ((z.1 4 1) - (((z.1 4 1) - (z.1 4 0)) &&& 1))), .long (Int32.toInt64 (z.1 4 0)), .ref 125]) (h2 := (q_K0, z.1, z.2, q_R0)) [(.aload_n 0, 0, 0, 0, 0, 0), (.getfield 27, 0, 8, 2, 0, 0), (.getfield 212, 0, 2, 1, 0, 0), (.aload_n 0, 0, 0, 0, 0, 0), (.getfield 27, 0, 8, 2, 0, 0), (.getfield 212, 0, 2, 1, 0, 0), (.aload_n 0, 0, 0, 0, 0, 0), (.getfield 27, 0, 8, 2, 0, 0), (.getfield 151, 0, 2, 0, 0, 0), (.isub, 0, 0, 0, 0, 0), (.iconst 1, 0, 0, 0, 1, 0), (.iand, 0, 0, 0, 0, 0), (.isub, 0, 0, 0, 0, 0), (.i2l, 0, 0, 0, 0, 0), (.lstore_n 2, 0, 0, 0, 0, 0), (.aload_n 0, 0, 0, 0, 0, 0), (.getfield 52, 0, 8, 6, 0, 0), (.aload_n 0, 0, 0, 0, 0, 0), (.getfield 27, 0, 8, 2, 0, 0), (.getfield 151, 0, 2, 0, 0, 0), (.i2l, 0, 0, 0, 0, 0), (.lload_n 2, 0, 0, 0, 0, 0), (.ldc2_w 214, 0, 0, 0, 0, 2)] (by decide +kernel) rfl rfl ⟨trivial, rfl, rfl, trivial, rfl, rfl, trivial, rfl, rfl, trivial, trivial, trivial, trivial, trivial, trivial, trivial, rfl, trivial, rfl, rfl, trivial, trivial, trivial, trivial⟩ ?_
        obtain ⟨⟨r4, z5⟩, hc11, h⟩ := Option.bind_eq_some_iff.mp h
        dsimp only at h
        refine q_cV1 (idx := 216) (v := .int r4) (h1 := (q_K0, z5.1, z5.2, q_R0)) [.long 2, .long (Int32.toInt64 ((z.1 4 1) - (((z.1 4 1) - (z.1 4 0)) &&& 1))), .long (Int32.toInt64 (z.1 4 0)), .ref 125] 40 125 5 [.long (Int32.toInt64 (z.1 4 0)), .long (Int32.toInt64 ((z.1 4 1) - (((z.1 4 1) - (z.1 4 0)) &&& 1))), .long 2] [] rfl (by decide +kernel) (by decide +kernel) rfl (Nat.le_of_ble_eq_true rfl) rfl (by decide) (by decide +kernel) (by decide +kernel) (s_X5_goRound hc11) ?_
        refine q_blk2 (pc2 := 111) (ls2 := [(5, .long ((2 * (z5.2 125 5)) - ((Int32.toInt64 ((z.1 4 1) - (((z.1 4 1) - (z.1 4 0)) &&& 1))) * (z5.2 125 7)))), (4, .int r4), (2, .long (Int32.toInt64 ((z.1 4 1) - (((z.1 4 1) - (z.1 4 0)) &&& 1)))), (0, .ref 1), (1, .int l1)]) (st2 := [.int (z5.1 125 9)]) (h2 := (q_K0, z5.1, z5.2, q_R0)) [(.istore 4, 0, 0, 0, 0, 0), (.ldc2_w 214, 0, 0, 0, 0, 2), (.aload_n 0, 0, 0, 0, 0, 0), (.getfield 52, 0, 8, 6, 0, 0), (.getfield 220, 0, 5, 5, 0, 0), (.lmul, 0, 0, 0, 0, 0), (.lload_n 2, 0, 0, 0, 0, 0), (.aload_n 0, 0, 0, 0, 0, 0), (.getfield 52, 0, 8, 6, 0, 0), (.getfield 223, 0, 5, 7, 0, 0), (.lmul, 0, 0, 0, 0, 0), (.lsub, 0, 0, 0, 0, 0), (.lstore 5, 0, 0, 0, 0, 0), (.aload_n 0, 0, 0, 0, 0, 0), (.getfield 52, 0, 8, 6, 0, 0), (.getfield 226, 0, 5, 9, 0, 0)] (by decide +kernel) rfl rfl ⟨trivial, trivial, trivial, rfl, rfl, trivial, trivial, trivial, rfl, rfl, trivial, trivial, trivial, trivial, rfl, rfl, trivial⟩ ?_
        refine q_if_ne (off := 12) (tgt := 123) (by decide +kernel) (by decide) (fun c111_4 => ?_) (fun c111_4 => ?_)
        · rw [if_neg c111_4] at h
          refine q_pick [3] rfl ?_
          exact t_X9_unit_123 h
        · rw [if_pos c111_4] at h
          refine q_blk2 (pc2 := 119) (ls2 := [(5, .long ((2 * (z5.2 125 5)) - ((Int32.toInt64 ((z.1 4 1) - (((z.1 4 1) - (z.1 4 0)) &&& 1))) * (z5.2 125 7)))), (4, .int r4), (2, .long (Int32.toInt64 ((z.1 4 1) - (((z.1 4 1) - (z.1 4 0)) &&& 1)))), (0, .ref 1), (1, .int l1)]) (st2 := [.long 1000000000000000000, .long ((2 * (z5.2 125 5)) - ((Int32.toInt64 ((z.1 4 1) - (((z.1 4 1) - (z.1 4 0)) &&& 1))) * (z5.2 125 7)))]) (h2 := (q_K0, z5.1, z5.2, q_R0)) [(.lload 5, 0, 0, 0, 0, 0), (.ldc2_w 230, 0, 0, 0, 0, 1000000000000000000)] (by decide +kernel) rfl rfl ⟨trivial, trivial, trivial⟩ ?_
          refine q_lc_le (off := 11) (tgt := 131) (by decide +kernel) (by decide +kernel) (by decide) (fun c119_5 => ?_) (fun c119_5 => ?_)
          · rw [if_pos c119_5] at h
            refine q_blk2 (pc2 := 137) (ls2 := [(5, .long ((2 * (z5.2 125 5)) - ((Int32.toInt64 ((z.1 4 1) - (((z.1 4 1) - (z.1 4 0)) &&& 1))) * (z5.2 125 7)))), (4, .int r4), (2, .long (Int32.toInt64 ((z.1 4 1) - (((z.1 4 1) - (z.1 4 0)) &&& 1)))), (0, .ref 1), (1, .int l1)]) (st2 := [.int l1]) (h2 := (q_K0, q_u2 z5.1 1 9 0, z5.2, q_R0)) [(.aload_n 0, 0, 0, 0, 0, 0), (.iconst 0, 0, 0, 0, 0, 0), (.putfield 66, 0, 8, 9, 0, 0), (.iload_n 1, 0, 0, 0, 0, 0)] (by decide +kernel) rfl rfl ⟨trivial, trivial, ⟨rfl, rfl, rfl⟩, trivial, trivial⟩ ?_
            by_cases cw12 : l1 = (0 : Int32)
            · rw [if_pos cw12] at h
              refine q_look (dflt := 38) (ps := #[(0, 27), (1, 30)]) (len := 27) (off := 27) (tgt := 164) (by decide +kernel) (by decide) (by rw [cw12]; rfl) (by decide) ?_
              refine q_blk2 (pc2 := 166) (ls2 := [(5, .long ((2 * (z5.2 125 5)) - ((Int32.toInt64 ((z.1 4 1) - (((z.1 4 1) - (z.1 4 0)) &&& 1))) * (z5.2 125 7)))), (4, .int r4), (2, .long (Int32.toInt64 ((z.1 4 1) - (((z.1 4 1) - (z.1 4 0)) &&& 1)))), (0, .ref 1), (1, .int l1)]) (st2 := [.long ((2 * (z5.2 125 5)) - ((Int32.toInt64 ((z.1 4 1) - (((z.1 4 1) - (z.1 4 0)) &&& 1))) * (z5.2 125 7)))]) (h2 := (q_K0, q_u2 z5.1 1 9 0, z5.2, q_R0)) [(.lload 5, 0, 0, 0, 0, 0)] (by decide +kernel) rfl rfl ⟨trivial, trivial⟩ ?_
              cases h
              exact q_lret rfl (by decide +kernel)
            rw [if_neg cw12] at h
            by_cases cw13 : l1 = (1 : Int32)
            · rw [if_pos cw13] at h
              refine q_look (dflt := 38) (ps := #[(0, 27), (1, 30)]) (len := 27) (off := 30) (tgt := 167) (by decide +kernel) (by decide) (by rw [cw13]; rfl) (by decide) ?_
              refine q_blk2 (pc2 := 174) (ls2 := [(5, .long ((2 * (z5.2 125 5)) - ((Int32.toInt64 ((z.1 4 1) - (((z.1 4 1) - (z.1 4 0)) &&& 1))) * (z5.2 125 7)))), (4, .int r4), (2, .long (Int32.toInt64 ((z.1 4 1) - (((z.1 4 1) - (z.1 4 0)) &&& 1)))), (0, .ref 1), (1, .int l1)]) (st2 := [.long (z5.2 125 7)]) (h2 := (q_K0, q_u2 z5.1 1 9 0, z5.2, q_R0)) [(.aload_n 0, 0, 0, 0, 0, 0), (.getfield 52, 0, 8, 6, 0, 0), (.getfield 223, 0, 5, 7, 0, 0)] (by decide +kernel) rfl rfl ⟨trivial, rfl, rfl, trivial⟩ ?_
              cases h
              exact q_lret rfl (by decide +kernel)
            rw [if_neg cw13] at h
            have e_cw12 : Int32.toInt l1 ≠ 0 := q_neI cw12
            have e_cw13 : Int32.toInt l1 ≠ 1 := q_neI cw13
            refine q_look (dflt := 38) (ps := #[(0, 27), (1, 30)]) (len := 27) (off := 38) (tgt := 175) (by decide +kernel) (by decide) (by simp [Op.lookupswitch.offset, Ne.symm e_cw12, Ne.symm e_cw13]) (by decide) ?_
            refine q_blk2 (pc2 := 179) (ls2 := [(5, .long ((2 * (z5.2 125 5)) - ((Int32.toInt64 ((z.1 4 1) - (((z.1 4 1) - (z.1 4 0)) &&& 1))) * (z5.2 125 7)))), (4, .int r4), (2, .long (Int32.toInt64 ((z.1 4 1) - (((z.1 4 1) - (z.1 4 0)) &&& 1)))), (0, .ref 1), (1, .int l1)]) (st2 := [.int (r4 - r4 / 2 * 2)]) (h2 := (q_K0, q_u2 z5.1 1 9 0, z5.2, q_R0)) [(.iload 4, 0, 0, 0, 0, 0), (.iconst 2, 0, 0, 0, 2, 0), (.irem, 0, 0, 0, 0, 0)] (by decide +kernel) rfl rfl ⟨trivial, trivial, (by decide), trivial⟩ ?_
            refine q_if_ne (off := 9) (tgt := 188) (by decide +kernel) (by decide) (fun c179_6 => ?_) (fun c179_6 => ?_)
            · rw [if_neg c179_6] at h
              refine q_blk2 (pc2 := 191) (ls2 := [(5, .long ((2 * (z5.2 125 5)) - ((Int32.toInt64 ((z.1 4 1) - (((z.1 4 1) - (z.1 4 0)) &&& 1))) * (z5.2 125 7)))), (4, .int r4), (2, .long (Int32.toInt64 ((z.1 4 1) - (((z.1 4 1) - (z.1 4 0)) &&& 1)))), (0, .ref 1), (1, .int l1)]) (st2 := [.long (-4)]) (h2 := (q_K0, q_u2 z5.1 1 9 0, z5.2, q_R0)) [(.ldc2_w 234, 0, 0, 0, 0, (-4))] (by decide +kernel) rfl rfl ⟨trivial, trivial⟩ ?_
              cases h
              exact q_lret rfl (by decide +kernel)
            · rw [if_pos c179_6] at h
              refine q_blk2 (pc2 := 185) (ls2 := [(5, .long ((2 * (z5.2 125 5)) - ((Int32.toInt64 ((z.1 4 1) - (((z.1 4 1) - (z.1 4 0)) &&& 1))) * (z5.2 125 7)))), (4, .int r4), (2, .long (Int32.toInt64 ((z.1 4 1) - (((z.1 4 1) - (z.1 4 0)) &&& 1)))), (0, .ref 1), (1, .int l1)]) (st2 := [.long 4]) (h2 := (q_K0, q_u2 z5.1 1 9 0, z5.2, q_R0)) [(.ldc2_w 232, 0, 0, 0, 0, 4)] (by decide +kernel) rfl rfl ⟨trivial, trivial⟩ ?_
              refine q_goto (off := 6) (tgt := 191) (by decide +kernel) (by decide) ?_
              cases h
              exact q_lret rfl (by decide +kernel)
          · rw [if_neg c119_5] at h
            refine q_pick [3] rfl ?_
            exact t_X9_unit_123 h
      · rw [if_neg c23_3] at h
        refine q_pick [0] rfl ?_
        exact t_X9_unit_26 h
  · rw [if_neg c7_1] at h
    refine q_blk2 (pc2 := 12) (ls2 := [(0, .ref 1), (1, .int l1)]) (st2 := [.int 5, .ref 1]) (h2 := (q_K0, z.1, z.2, q_R0)) [(.aload_n 0, 0, 0, 0, 0, 0), (.iconst 5, 0, 0, 0, 5, 0)] (by decide +kernel) rfl rfl ⟨trivial, trivial, trivial⟩ ?_
    obtain ⟨⟨r9, z10⟩, hc14, h⟩ := Option.bind_eq_some_iff.mp h
    dsimp only at h
    refine q_cV1 (idx := 86) (v := .int r9) (h1 := (q_K0, z10.1, z10.2, q_R0)) [.int 5, .ref 1] 89 1 8 [.int 5] [] rfl (by decide +kernel) (by decide +kernel) rfl (Nat.le_of_ble_eq_true rfl) rfl (by decide) (by decide +kernel) (by decide +kernel) (s_X9_refuse hc14) ?_
    refine q_blk2 (pc2 := 16) (ls2 := [(0, .ref 1), (1, .int l1)]) (st2 := [.long (Int32.toInt64 r9)]) (h2 := (q_K0, z10.1, z10.2, q_R0)) [(.i2l, 0, 0, 0, 0, 0)] (by decide +kernel) rfl rfl ⟨trivial, trivial⟩ ?_
    cases h
    exact q_lret rfl (by decide +kernel)
def T_X9_hasQuotients_24 (z : q_Z) : Option (Int32 × q_Z) :=
  some (0, z)
set_option maxRecDepth 100000 in
set_option maxHeartbeats 4000000 in
theorem t_X9_hasQuotients_24 {z zR : q_Z} {rv : Int32} (h : T_X9_hasQuotients_24 z = some (rv, zR)) : q_Ex none 92 24 [] [] (q_K0, z.1, z.2, q_R0) (some (.int rv)) (q_K0, zR.1, zR.2, q_R0) := by
  unfold T_X9_hasQuotients_24 at h
  refine q_blk2 (pc2 := 25) (ls2 := []) (st2 := [.int 0]) (h2 := (q_K0, z.1, z.2, q_R0)) [(.iconst 0, 0, 0, 0, 0, 0)] (by decide +kernel) rfl rfl ⟨trivial, trivial⟩ ?_
  cases h
  exact q_iret .boolean rfl rfl (by decide +kernel)
/-- RootForms.hasQuotients(I)Z -/
def F_X9_hasQuotients (z : q_Z) (l0 : Int32) : Option (Int32 × q_Z) :=
  if l0 < (2 : Int32) then
    T_X9_hasQuotients_24 z
  else
    if (10000 : Int32) < l0 then
      T_X9_hasQuotients_24 z
    else
      (F_X7_isSquare z (Int32.toInt64 l0)).bind fun (r1, z2) =>
        if r1 = (0 : Int32) then
          some (1, z2)
        else
          T_X9_hasQuotients_24 z2
set_option maxRecDepth 100000 in
set_option maxHeartbeats 4000000 in
theorem s_X9_hasQuotients {z zR : q_Z} {l0 : Int32} {rv : Int32} (h : F_X9_hasQuotients z l0 = some (rv, zR)) : q_Ca 92 [.int l0] (q_K0, z.1, z.2, q_R0) (some (.int rv)) (q_K0, zR.1, zR.2, q_R0) := by
  refine q_Ca_of (by decide) (Nat.le_of_ble_eq_true rfl) ?_
  show q_Ex none 92 0 [(0, .int l0)] [] (q_K0, z.1, z.2, q_R0) _ _
  unfold F_X9_hasQuotients at h
  refine q_blk2 (pc2 := 2) (ls2 := [(0, .int l0)]) (st2 := [.int 2, .int l0]) (h2 := (q_K0, z.1, z.2, q_R0)) [(.iload_n 0, 0, 0, 0, 0, 0), (.iconst 2, 0, 0, 0, 2, 0)] (by decide +kernel) rfl rfl ⟨trivial, trivial, trivial⟩ ?_
  refine q_ic_lt (off := 22) (tgt := 24) (by decide +kernel) (by decide) (fun c2_1 => ?_) (fun c2_1 => ?_)
  · rw [if_pos c2_1] at h
    refine q_pick [] rfl ?_
    exact t_X9_hasQuotients_24 h
  · rw [if_neg c2_1] at h
    refine q_blk2 (pc2 := 9) (ls2 := [(0, .int l0)]) (st2 := [.int 10000, .int l0]) (h2 := (q_K0, z.1, z.2, q_R0)) [(.iload_n 0, 0, 0, 0, 0, 0), (.sipush 10000, 0, 0, 0, 10000, 0)] (by decide +kernel) rfl rfl ⟨trivial, trivial, trivial⟩ ?_
    refine q_ic_gt (off := 15) (tgt := 24) (by decide +kernel) (by decide) (fun c9_2 => ?_) (fun c9_2 => ?_)
    · rw [if_pos c9_2] at h
      refine q_pick [] rfl ?_
      exact t_X9_hasQuotients_24 h
    · rw [if_neg c9_2] at h
      refine q_blk2 (pc2 := 14) (ls2 := [(0, .int l0)]) (st2 := [.long (Int32.toInt64 l0)]) (h2 := (q_K0, z.1, z.2, q_R0)) [(.iload_n 0, 0, 0, 0, 0, 0), (.i2l, 0, 0, 0, 0, 0)] (by decide +kernel) rfl rfl ⟨trivial, trivial, trivial⟩ ?_
      obtain ⟨⟨r1, z2⟩, hc3, h⟩ := Option.bind_eq_some_iff.mp h
      dsimp only at h
      refine q_cS1 (idx := 282) (v := .int r1) (h1 := (q_K0, z2.1, z2.2, q_R0)) [.long (Int32.toInt64 l0)] 49 [.long (Int32.toInt64 l0)] [] rfl (by decide +kernel) (by decide +kernel) rfl (Nat.le_of_ble_eq_true rfl) (by decide +kernel) (s_X7_isSquare hc3) ?_
      refine q_if_ne (off := 7) (tgt := 24) (by decide +kernel) (by decide) (fun c17_3 => ?_) (fun c17_3 => ?_)
      · rw [if_neg c17_3] at h
        refine q_pick [] rfl ?_
        exact t_X9_hasQuotients_24 h
      · rw [if_pos c17_3] at h
        refine q_blk2 (pc2 := 21) (ls2 := [(0, .int l0)]) (st2 := [.int 1]) (h2 := (q_K0, z2.1, z2.2, q_R0)) [(.iconst 1, 0, 0, 0, 1, 0)] (by decide +kernel) rfl rfl ⟨trivial, trivial⟩ ?_
        refine q_goto (off := 4) (tgt := 25) (by decide +kernel) (by decide) ?_
        cases h
        exact q_iret .boolean rfl rfl (by decide +kernel)
/-- RootForms.period(I)I -/
def F_X9_period (z : q_Z) (l1 : Int32) : Option (Int32 × q_Z) :=
  (F_X9_hasQuotients z l1).bind fun (r1, z2) =>
    if r1 = (0 : Int32) then
      (F_X9_refuse z2 1).bind fun (r7, z8) =>
        some (r7, z8)
    else
      (F_X5_goRound z2 (Int32.toInt64 l1) 0 1).bind fun (r3, z4) =>
        (F_X9_accept z4 r3).bind fun (r5, z6) =>
          some (r5, z6)
set_option maxRecDepth 100000 in
set_option maxHeartbeats 4000000 in
theorem s_X9_period {z zR : q_Z} {l1 : Int32} {rv : Int32} (h : F_X9_period z l1 = some (rv, zR)) : q_Ca 79 [.ref 1, .int l1] (q_K0, z.1, z.2, q_R0) (some (.int rv)) (q_K0, zR.1, zR.2, q_R0) := by
  refine q_Ca_of (by decide) (Nat.le_of_ble_eq_true rfl) ?_
  show q_Ex none 79 0 [(0, .ref 1), (1, .int l1)] [] (q_K0, z.1, z.2, q_R0) _ _
  unfold F_X9_period at h
  refine q_blk2 (pc2 := 1) (ls2 := [(0, .ref 1), (1, .int l1)]) (st2 := [.int l1]) (h2 := (q_K0, z.1, z.2, q_R0)) [(.iload_n 1, 0, 0, 0, 0, 0)] (by decide +kernel) rfl rfl ⟨trivial, trivial⟩ ?_
  obtain ⟨⟨r1, z2⟩, hc9, h⟩ := Option.bind_eq_some_iff.mp h
  dsimp only at h
  refine q_cS1 (idx := 236) (v := .int r1) (h1 := (q_K0, z2.1, z2.2, q_R0)) [.int l1] 92 [.int l1] [] rfl (by decide +kernel) (by decide +kernel) rfl (Nat.le_of_ble_eq_true rfl) (by decide +kernel) (s_X9_hasQuotients hc9) ?_
  refine q_if_ne (off := 9) (tgt := 13) (by decide +kernel) (by decide) (fun c4_1 => ?_) (fun c4_1 => ?_)
  · rw [if_neg c4_1] at h
    refine q_blk2 (pc2 := 22) (ls2 := [(0, .ref 1), (1, .int l1)]) (st2 := [.long 1, .long 0, .long (Int32.toInt64 l1), .ref 125, .ref 1]) (h2 := (q_K0, z2.1, z2.2, q_R0)) [(.aload_n 0, 0, 0, 0, 0, 0), (.aload_n 0, 0, 0, 0, 0, 0), (.getfield 52, 0, 8, 6, 0, 0), (.iload_n 1, 0, 0, 0, 0, 0), (.i2l, 0, 0, 0, 0, 0), (.lconst 0, 0, 0, 0, 0, 0), (.lconst 1, 0, 0, 0, 0, 1)] (by decide +kernel) rfl rfl ⟨trivial, trivial, rfl, trivial, trivial, trivial, trivial, trivial⟩ ?_
    obtain ⟨⟨r3, z4⟩, hc10, h⟩ := Option.bind_eq_some_iff.mp h
    dsimp only at h
    refine q_cV1 (idx := 216) (v := .int r3) (h1 := (q_K0, z4.1, z4.2, q_R0)) [.long 1, .long 0, .long (Int32.toInt64 l1), .ref 125, .ref 1] 40 125 5 [.long (Int32.toInt64 l1), .long 0, .long 1] [.ref 1] rfl (by decide +kernel) (by decide +kernel) rfl (Nat.le_of_ble_eq_true rfl) rfl (by decide) (by decide +kernel) (by decide +kernel) (s_X5_goRound hc10) ?_
    obtain ⟨⟨r5, z6⟩, hc11, h⟩ := Option.bind_eq_some_iff.mp h
    dsimp only at h
    refine q_cV1 (idx := 106) (v := .int r5) (h1 := (q_K0, z6.1, z6.2, q_R0)) [.int r3, .ref 1] 90 1 8 [.int r3] [] rfl (by decide +kernel) (by decide +kernel) rfl (Nat.le_of_ble_eq_true rfl) rfl (by decide) (by decide +kernel) (by decide +kernel) (s_X9_accept hc11) ?_
    cases h
    exact q_iret .int rfl rfl (by decide +kernel)
  · rw [if_pos c4_1] at h
    refine q_blk2 (pc2 := 9) (ls2 := [(0, .ref 1), (1, .int l1)]) (st2 := [.int 1, .ref 1]) (h2 := (q_K0, z2.1, z2.2, q_R0)) [(.aload_n 0, 0, 0, 0, 0, 0), (.iconst 1, 0, 0, 0, 1, 0)] (by decide +kernel) rfl rfl ⟨trivial, trivial, trivial⟩ ?_
    obtain ⟨⟨r7, z8⟩, hc12, h⟩ := Option.bind_eq_some_iff.mp h
    dsimp only at h
    refine q_cV1 (idx := 86) (v := .int r7) (h1 := (q_K0, z8.1, z8.2, q_R0)) [.int 1, .ref 1] 89 1 8 [.int 1] [] rfl (by decide +kernel) (by decide +kernel) rfl (Nat.le_of_ble_eq_true rfl) rfl (by decide) (by decide +kernel) (by decide +kernel) (s_X9_refuse hc12) ?_
    cases h
    exact q_iret .int rfl rfl (by decide +kernel)
def T_X9_quotient_18 (z : q_Z) : Option (Int32 × q_Z) :=
  (F_X9_refuse z 1).bind fun (r3, z4) =>
    some (r3, z4)
set_option maxRecDepth 100000 in
set_option maxHeartbeats 4000000 in
theorem t_X9_quotient_18 {z zR : q_Z} {rv : Int32} (h : T_X9_quotient_18 z = some (rv, zR)) : q_Ex none 80 18 [(0, .ref 1)] [] (q_K0, z.1, z.2, q_R0) (some (.int rv)) (q_K0, zR.1, zR.2, q_R0) := by
  unfold T_X9_quotient_18 at h
  refine q_blk2 (pc2 := 20) (ls2 := [(0, .ref 1)]) (st2 := [.int 1, .ref 1]) (h2 := (q_K0, z.1, z.2, q_R0)) [(.aload_n 0, 0, 0, 0, 0, 0), (.iconst 1, 0, 0, 0, 1, 0)] (by decide +kernel) rfl rfl ⟨trivial, trivial, trivial⟩ ?_
  obtain ⟨⟨r3, z4⟩, hc5, h⟩ := Option.bind_eq_some_iff.mp h
  dsimp only at h
  refine q_cV1 (idx := 86) (v := .int r3) (h1 := (q_K0, z4.1, z4.2, q_R0)) [.int 1, .ref 1] 89 1 8 [.int 1] [] rfl (by decide +kernel) (by decide +kernel) rfl (Nat.le_of_ble_eq_true rfl) rfl (by decide) (by decide +kernel) (by decide +kernel) (s_X9_refuse hc5) ?_
  cases h
  exact q_iret .int rfl rfl (by decide +kernel)
/-- RootForms.quotient(II)I -/
def F_X9_quotient (z : q_Z) (l1 : Int32) (l2 : Int32) : Option (Int32 × q_Z) :=
  (F_X9_hasQuotients z l1).bind fun (r1, z2) =>
    if r1 = (0 : Int32) then
      T_X9_quotient_18 z2
    else
      if l2 < (0 : Int32) then
        T_X9_quotient_18 z2
      else
        if l2 ≤ (1000 : Int32) then
          (F_X5_goTo z2 (Int32.toInt64 l1) l2).bind fun (_, z7) =>
            (F_X9_accept z7 (Int64.toInt32 (z7.2 125 4))).bind fun (r8, z9) =>
              some (r8, z9)
        else
          T_X9_quotient_18 z2
set_option maxRecDepth 100000 in
set_option maxHeartbeats 4000000 in
theorem s_X9_quotient {z zR : q_Z} {l1 : Int32} {l2 : Int32} {rv : Int32} (h : F_X9_quotient z l1 l2 = some (rv, zR)) : q_Ca 80 [.ref 1, .int l1, .int l2] (q_K0, z.1, z.2, q_R0) (some (.int rv)) (q_K0, zR.1, zR.2, q_R0) := by
  refine q_Ca_of (by decide) (Nat.le_of_ble_eq_true rfl) ?_
  show q_Ex none 80 0 [(0, .ref 1), (1, .int l1), (2, .int l2)] [] (q_K0, z.1, z.2, q_R0) _ _
  unfold F_X9_quotient at h
  refine q_blk2 (pc2 := 1) (ls2 := [(0, .ref 1), (1, .int l1), (2, .int l2)]) (st2 := [.int l1]) (h2 := (q_K0, z.1, z.2, q_R0)) [(.iload_n 1, 0, 0, 0, 0, 0)] (by decide +kernel) rfl rfl ⟨trivial, trivial⟩ ?_
  obtain ⟨⟨r1, z2⟩, hc10, h⟩ := Option.bind_eq_some_iff.mp h
  dsimp only at h
  refine q_cS1 (idx := 236) (v := .int r1) (h1 := (q_K0, z2.1, z2.2, q_R0)) [.int l1] 92 [.int l1] [] rfl (by decide +kernel) (by decide +kernel) rfl (Nat.le_of_ble_eq_true rfl) (by decide +kernel) (s_X9_hasQuotients hc10) ?_
  refine q_if_eq (off := 14) (tgt := 18) (by decide +kernel) (by decide) (fun c4_1 => ?_) (fun c4_1 => ?_)
  · rw [if_pos c4_1] at h
    refine q_pick [0] rfl ?_
    exact t_X9_quotient_18 h
  · rw [if_neg c4_1] at h
    refine q_blk2 (pc2 := 8) (ls2 := [(0, .ref 1), (1, .int l1), (2, .int l2)]) (st2 := [.int l2]) (h2 := (q_K0, z2.1, z2.2, q_R0)) [(.iload_n 2, 0, 0, 0, 0, 0)] (by decide +kernel) rfl rfl ⟨trivial, trivial⟩ ?_
    refine q_if_lt (off := 10) (tgt := 18) (by decide +kernel) (by decide) (fun c8_2 => ?_) (fun c8_2 => ?_)
    · rw [if_pos c8_2] at h
      refine q_pick [0] rfl ?_
      exact t_X9_quotient_18 h
    · rw [if_neg c8_2] at h
      refine q_blk2 (pc2 := 15) (ls2 := [(0, .ref 1), (1, .int l1), (2, .int l2)]) (st2 := [.int 1000, .int l2]) (h2 := (q_K0, z2.1, z2.2, q_R0)) [(.iload_n 2, 0, 0, 0, 0, 0), (.sipush 1000, 0, 0, 0, 1000, 0)] (by decide +kernel) rfl rfl ⟨trivial, trivial, trivial⟩ ?_
      refine q_ic_le (off := 9) (tgt := 24) (by decide +kernel) (by decide) (fun c15_3 => ?_) (fun c15_3 => ?_)
      · rw [if_pos c15_3] at h
        refine q_blk2 (pc2 := 31) (ls2 := [(0, .ref 1), (1, .int l1), (2, .int l2)]) (st2 := [.int l2, .long (Int32.toInt64 l1), .ref 125]) (h2 := (q_K0, z2.1, z2.2, q_R0)) [(.aload_n 0, 0, 0, 0, 0, 0), (.getfield 52, 0, 8, 6, 0, 0), (.iload_n 1, 0, 0, 0, 0, 0), (.i2l, 0, 0, 0, 0, 0), (.iload_n 2, 0, 0, 0, 0, 0)] (by decide +kernel) rfl rfl ⟨trivial, rfl, trivial, trivial, trivial, trivial⟩ ?_
        obtain ⟨⟨_, z7⟩, hc11, h⟩ := Option.bind_eq_some_iff.mp h
        dsimp only at h
        refine q_cV0 (idx := 239) (h1 := (q_K0, z7.1, z7.2, q_R0)) [.int l2, .long (Int32.toInt64 l1), .ref 125] 41 125 5 [.long (Int32.toInt64 l1), .int l2] [] rfl (by decide +kernel) (by decide +kernel) rfl (Nat.le_of_ble_eq_true rfl) rfl (by decide) (by decide +kernel) (by decide +kernel) (s_X5_goTo hc11) ?_
        refine q_blk2 (pc2 := 43) (ls2 := [(0, .ref 1), (1, .int l1), (2, .int l2)]) (st2 := [.int (Int64.toInt32 (z7.2 125 4)), .ref 1]) (h2 := (q_K0, z7.1, z7.2, q_R0)) [(.aload_n 0, 0, 0, 0, 0, 0), (.aload_n 0, 0, 0, 0, 0, 0), (.getfield 52, 0, 8, 6, 0, 0), (.getfield 243, 0, 5, 4, 0, 0), (.l2i, 0, 0, 0, 0, 0)] (by decide +kernel) rfl rfl ⟨trivial, trivial, rfl, rfl, trivial, trivial⟩ ?_
        obtain ⟨⟨r8, z9⟩, hc12, h⟩ := Option.bind_eq_some_iff.mp h
        dsimp only at h
        refine q_cV1 (idx := 106) (v := .int r8) (h1 := (q_K0, z9.1, z9.2, q_R0)) [.int (Int64.toInt32 (z7.2 125 4)), .ref 1] 90 1 8 [.int (Int64.toInt32 (z7.2 125 4))] [] rfl (by decide +kernel) (by decide +kernel) rfl (Nat.le_of_ble_eq_true rfl) rfl (by decide) (by decide +kernel) (by decide +kernel) (s_X9_accept hc12) ?_
        cases h
        exact q_iret .int rfl rfl (by decide +kernel)
      · rw [if_neg c15_3] at h
        refine q_pick [0] rfl ?_
        exact t_X9_quotient_18 h
def T_X9_near_18 (z : q_Z) : Option (Int64 × q_Z) :=
  (F_X9_refuse z 1).bind fun (r3, z4) =>
    some (Int32.toInt64 r3, z4)
set_option maxRecDepth 100000 in
set_option maxHeartbeats 4000000 in
theorem t_X9_near_18 {z zR : q_Z} {rv : Int64} (h : T_X9_near_18 z = some (rv, zR)) : q_Ex none 81 18 [(0, .ref 1)] [] (q_K0, z.1, z.2, q_R0) (some (.long rv)) (q_K0, zR.1, zR.2, q_R0) := by
  unfold T_X9_near_18 at h
  refine q_blk2 (pc2 := 20) (ls2 := [(0, .ref 1)]) (st2 := [.int 1, .ref 1]) (h2 := (q_K0, z.1, z.2, q_R0)) [(.aload_n 0, 0, 0, 0, 0, 0), (.iconst 1, 0, 0, 0, 1, 0)] (by decide +kernel) rfl rfl ⟨trivial, trivial, trivial⟩ ?_
  obtain ⟨⟨r3, z4⟩, hc5, h⟩ := Option.bind_eq_some_iff.mp h
  dsimp only at h
  refine q_cV1 (idx := 86) (v := .int r3) (h1 := (q_K0, z4.1, z4.2, q_R0)) [.int 1, .ref 1] 89 1 8 [.int 1] [] rfl (by decide +kernel) (by decide +kernel) rfl (Nat.le_of_ble_eq_true rfl) rfl (by decide) (by decide +kernel) (by decide +kernel) (s_X9_refuse hc5) ?_
  refine q_blk2 (pc2 := 24) (ls2 := [(0, .ref 1)]) (st2 := [.long (Int32.toInt64 r3)]) (h2 := (q_K0, z4.1, z4.2, q_R0)) [(.i2l, 0, 0, 0, 0, 0)] (by decide +kernel) rfl rfl ⟨trivial, trivial⟩ ?_
  cases h
  exact q_lret rfl (by decide +kernel)
/-- RootForms.near(IIZ)J -/
def F_X9_near (z : q_Z) (l1 : Int32) (l2 : Int32) (l3 : Int32) : Option (Int64 × q_Z) :=
  (F_X9_hasQuotients z l1).bind fun (r1, z2) =>
    if r1 = (0 : Int32) then
      T_X9_near_18 z2
    else
      if l2 < (0 : Int32) then
        T_X9_near_18 z2
      else
        if l2 ≤ (1000 : Int32) then
          (F_X5_goTo z2 (Int32.toInt64 l1) l2).bind fun (_, z7) =>
            if (z7.1 125 9) = (0 : Int32) then
              if l3 = (0 : Int32) then
                some (z7.2 125 5, (q_u2 z7.1 1 9 0, z7.2))
              else
                some (z7.2 125 7, (q_u2 z7.1 1 9 0, z7.2))
            else
              (F_X9_refuse z7 6).bind fun (r8, z9) =>
                some (Int32.toInt64 r8, z9)
        else
          T_X9_near_18 z2
set_option maxRecDepth 100000 in
set_option maxHeartbeats 4000000 in
theorem s_X9_near {z zR : q_Z} {l1 : Int32} {l2 : Int32} {l3 : Int32} {rv : Int64} (h : F_X9_near z l1 l2 l3 = some (rv, zR)) : q_Ca 81 [.ref 1, .int l1, .int l2, .int l3] (q_K0, z.1, z.2, q_R0) (some (.long rv)) (q_K0, zR.1, zR.2, q_R0) := by
  refine q_Ca_of (by decide) (Nat.le_of_ble_eq_true rfl) ?_
  show q_Ex none 81 0 [(0, .ref 1), (1, .int l1), (2, .int l2), (3, .int l3)] [] (q_K0, z.1, z.2, q_R0) _ _
  unfold F_X9_near at h
  refine q_blk2 (pc2 := 1) (ls2 := [(0, .ref 1), (1, .int l1), (2, .int l2), (3, .int l3)]) (st2 := [.int l1]) (h2 := (q_K0, z.1, z.2, q_R0)) [(.iload_n 1, 0, 0, 0, 0, 0)] (by decide +kernel) rfl rfl ⟨trivial, trivial⟩ ?_
  obtain ⟨⟨r1, z2⟩, hc10, h⟩ := Option.bind_eq_some_iff.mp h
  dsimp only at h
  refine q_cS1 (idx := 236) (v := .int r1) (h1 := (q_K0, z2.1, z2.2, q_R0)) [.int l1] 92 [.int l1] [] rfl (by decide +kernel) (by decide +kernel) rfl (Nat.le_of_ble_eq_true rfl) (by decide +kernel) (s_X9_hasQuotients hc10) ?_
  refine q_if_eq (off := 14) (tgt := 18) (by decide +kernel) (by decide) (fun c4_1 => ?_) (fun c4_1 => ?_)
  · rw [if_pos c4_1] at h
    refine q_pick [0] rfl ?_
    exact t_X9_near_18 h
  · rw [if_neg c4_1] at h
    refine q_blk2 (pc2 := 8) (ls2 := [(0, .ref 1), (1, .int l1), (2, .int l2), (3, .int l3)]) (st2 := [.int l2]) (h2 := (q_K0, z2.1, z2.2, q_R0)) [(.iload_n 2, 0, 0, 0, 0, 0)] (by decide +kernel) rfl rfl ⟨trivial, trivial⟩ ?_
    refine q_if_lt (off := 10) (tgt := 18) (by decide +kernel) (by decide) (fun c8_2 => ?_) (fun c8_2 => ?_)
    · rw [if_pos c8_2] at h
      refine q_pick [0] rfl ?_
      exact t_X9_near_18 h
    · rw [if_neg c8_2] at h
      refine q_blk2 (pc2 := 15) (ls2 := [(0, .ref 1), (1, .int l1), (2, .int l2), (3, .int l3)]) (st2 := [.int 1000, .int l2]) (h2 := (q_K0, z2.1, z2.2, q_R0)) [(.iload_n 2, 0, 0, 0, 0, 0), (.sipush 1000, 0, 0, 0, 1000, 0)] (by decide +kernel) rfl rfl ⟨trivial, trivial, trivial⟩ ?_
      refine q_ic_le (off := 10) (tgt := 25) (by decide +kernel) (by decide) (fun c15_3 => ?_) (fun c15_3 => ?_)
      · rw [if_pos c15_3] at h
        refine q_blk2 (pc2 := 32) (ls2 := [(0, .ref 1), (1, .int l1), (2, .int l2), (3, .int l3)]) (st2 := [.int l2, .long (Int32.toInt64 l1), .ref 125]) (h2 := (q_K0, z2.1, z2.2, q_R0)) [(.aload_n 0, 0, 0, 0, 0, 0), (.getfield 52, 0, 8, 6, 0, 0), (.iload_n 1, 0, 0, 0, 0, 0), (.i2l, 0, 0, 0, 0, 0), (.iload_n 2, 0, 0, 0, 0, 0)] (by decide +kernel) rfl rfl ⟨trivial, rfl, trivial, trivial, trivial, trivial⟩ ?_
        obtain ⟨⟨_, z7⟩, hc11, h⟩ := Option.bind_eq_some_iff.mp h
        dsimp only at h
        refine q_cV0 (idx := 239) (h1 := (q_K0, z7.1, z7.2, q_R0)) [.int l2, .long (Int32.toInt64 l1), .ref 125] 41 125 5 [.long (Int32.toInt64 l1), .int l2] [] rfl (by decide +kernel) (by decide +kernel) rfl (Nat.le_of_ble_eq_true rfl) rfl (by decide) (by decide +kernel) (by decide +kernel) (s_X5_goTo hc11) ?_
        refine q_blk2 (pc2 := 42) (ls2 := [(0, .ref 1), (1, .int l1), (2, .int l2), (3, .int l3)]) (st2 := [.int (z7.1 125 9)]) (h2 := (q_K0, z7.1, z7.2, q_R0)) [(.aload_n 0, 0, 0, 0, 0, 0), (.getfield 52, 0, 8, 6, 0, 0), (.getfield 226, 0, 5, 9, 0, 0)] (by decide +kernel) rfl rfl ⟨trivial, rfl, rfl, trivial⟩ ?_
        refine q_if_eq (off := 11) (tgt := 53) (by decide +kernel) (by decide) (fun c42_4 => ?_) (fun c42_4 => ?_)
        · rw [if_pos c42_4] at h
          refine q_blk2 (pc2 := 59) (ls2 := [(0, .ref 1), (1, .int l1), (2, .int l2), (3, .int l3)]) (st2 := [.int l3]) (h2 := (q_K0, q_u2 z7.1 1 9 0, z7.2, q_R0)) [(.aload_n 0, 0, 0, 0, 0, 0), (.iconst 0, 0, 0, 0, 0, 0), (.putfield 66, 0, 8, 9, 0, 0), (.iload_n 3, 0, 0, 0, 0, 0)] (by decide +kernel) rfl rfl ⟨trivial, trivial, ⟨rfl, rfl, rfl⟩, trivial, trivial⟩ ?_
          refine q_if_eq (off := 13) (tgt := 72) (by decide +kernel) (by decide) (fun c59_5 => ?_) (fun c59_5 => ?_)
          · rw [if_pos c59_5] at h
            refine q_blk2 (pc2 := 79) (ls2 := [(0, .ref 1), (1, .int l1), (2, .int l2), (3, .int l3)]) (st2 := [.long (z7.2 125 5)]) (h2 := (q_K0, q_u2 z7.1 1 9 0, z7.2, q_R0)) [(.aload_n 0, 0, 0, 0, 0, 0), (.getfield 52, 0, 8, 6, 0, 0), (.getfield 220, 0, 5, 5, 0, 0)] (by decide +kernel) rfl rfl ⟨trivial, rfl, rfl, trivial⟩ ?_
            cases h
            exact q_lret rfl (by decide +kernel)
          · rw [if_neg c59_5] at h
            refine q_blk2 (pc2 := 69) (ls2 := [(0, .ref 1), (1, .int l1), (2, .int l2), (3, .int l3)]) (st2 := [.long (z7.2 125 7)]) (h2 := (q_K0, q_u2 z7.1 1 9 0, z7.2, q_R0)) [(.aload_n 0, 0, 0, 0, 0, 0), (.getfield 52, 0, 8, 6, 0, 0), (.getfield 223, 0, 5, 7, 0, 0)] (by decide +kernel) rfl rfl ⟨trivial, rfl, rfl, trivial⟩ ?_
            refine q_goto (off := 10) (tgt := 79) (by decide +kernel) (by decide) ?_
            cases h
            exact q_lret rfl (by decide +kernel)
        · rw [if_neg c42_4] at h
          refine q_blk2 (pc2 := 48) (ls2 := [(0, .ref 1), (1, .int l1), (2, .int l2), (3, .int l3)]) (st2 := [.int 6, .ref 1]) (h2 := (q_K0, z7.1, z7.2, q_R0)) [(.aload_n 0, 0, 0, 0, 0, 0), (.bipush 6, 0, 0, 0, 6, 0)] (by decide +kernel) rfl rfl ⟨trivial, trivial, trivial⟩ ?_
          obtain ⟨⟨r8, z9⟩, hc12, h⟩ := Option.bind_eq_some_iff.mp h
          dsimp only at h
          refine q_cV1 (idx := 86) (v := .int r8) (h1 := (q_K0, z9.1, z9.2, q_R0)) [.int 6, .ref 1] 89 1 8 [.int 6] [] rfl (by decide +kernel) (by decide +kernel) rfl (Nat.le_of_ble_eq_true rfl) rfl (by decide) (by decide +kernel) (by decide +kernel) (s_X9_refuse hc12) ?_
          refine q_blk2 (pc2 := 52) (ls2 := [(0, .ref 1), (1, .int l1), (2, .int l2), (3, .int l3)]) (st2 := [.long (Int32.toInt64 r8)]) (h2 := (q_K0, z9.1, z9.2, q_R0)) [(.i2l, 0, 0, 0, 0, 0)] (by decide +kernel) rfl rfl ⟨trivial, trivial⟩ ?_
          cases h
          exact q_lret rfl (by decide +kernel)
      · rw [if_neg c15_3] at h
        refine q_pick [0] rfl ?_
        exact t_X9_near_18 h
def T_X9_keepTaken_29 (z : q_Z) : Option (Int32 × q_Z) :=
  some (0, z)
set_option maxRecDepth 100000 in
set_option maxHeartbeats 4000000 in
theorem t_X9_keepTaken_29 {z zR : q_Z} {rv : Int32} (h : T_X9_keepTaken_29 z = some (rv, zR)) : q_Ex none 94 29 [] [] (q_K0, z.1, z.2, q_R0) (some (.int rv)) (q_K0, zR.1, zR.2, q_R0) := by
  unfold T_X9_keepTaken_29 at h
  refine q_blk2 (pc2 := 30) (ls2 := []) (st2 := [.int 0]) (h2 := (q_K0, z.1, z.2, q_R0)) [(.iconst 0, 0, 0, 0, 0, 0)] (by decide +kernel) rfl rfl ⟨trivial, trivial⟩ ?_
  cases h
  exact q_iret .int rfl rfl (by decide +kernel)
/-- RootForms.keepTaken(JJ)I -/
def F_X9_keepTaken (z : q_Z) (l1 : Int64) (l3 : Int64) : Option (Int32 × q_Z) :=
  if (2 * (z.2 126 0)) = (0 : Int64) then
    T_X9_keepTaken_29 z
  else
    if ¬ (2 * (z.2 126 0)) = (0 : Int64) then
      if (l1 - l1 / (2 * (z.2 126 0)) * (2 * (z.2 126 0))) = (0 : Int64) then
        if ¬ (2 * (z.2 126 0)) = (0 : Int64) then
          (F_X4_insert z (Int64.toInt32 (((z.2 127 0) * (l1 / (2 * (z.2 126 0)))) + ((z.2 127 1) * l3))) (Int64.toInt32 (((z.2 127 2) * (l1 / (2 * (z.2 126 0)))) + ((z.2 127 3) * l3)))).bind fun (_, z4) =>
            if l3 = (0 : Int64) then
              some (1, z4)
            else
              (F_X4_insert z4 (-(Int64.toInt32 (((z.2 127 0) * (l1 / (2 * (z.2 126 0)))) + ((z.2 127 1) * l3)))) (-(Int64.toInt32 (((z.2 127 2) * (l1 / (2 * (z.2 126 0)))) + ((z.2 127 3) * l3))))).bind fun (_, z6) =>
                some (2, z6)
        else none
      else
        T_X9_keepTaken_29 z
    else none
set_option maxRecDepth 100000 in
set_option maxHeartbeats 4000000 in
theorem s_X9_keepTaken {z zR : q_Z} {l1 : Int64} {l3 : Int64} {rv : Int32} (h : F_X9_keepTaken z l1 l3 = some (rv, zR)) : q_Ca 94 [.ref 1, .long l1, .long l3] (q_K0, z.1, z.2, q_R0) (some (.int rv)) (q_K0, zR.1, zR.2, q_R0) := by
  refine q_Ca_of (by decide) (Nat.le_of_ble_eq_true rfl) ?_
  show q_Ex none 94 0 [(0, .ref 1), (1, .long l1), (3, .long l3)] [] (q_K0, z.1, z.2, q_R0) _ _
  unfold F_X9_keepTaken at h
  refine q_blk2 (pc2 := 16) (ls2 := [(5, .long (2 * (z.2 126 0))), (0, .ref 1), (1, .long l1), (3, .long l3)]) (st2 := [.long 0, .long (2 * (z.2 126 0))]) (h2 := (q_K0, z.1, z.2, q_R0)) [(.ldc2_w 214, 0, 0, 0, 0, 2), (.aload_n 0, 0, 0, 0, 0, 0), (.getfield 59, 0, 8, 7, 0, 0), (.getfield 288, 0, 1, 0, 0, 0), (.lmul, 0, 0, 0, 0, 0), (.lstore 5, 0, 0, 0, 0, 0), (.lload 5, 0, 0, 0, 0, 0), (.lconst 0, 0, 0, 0, 0, 0)] (by decide +kernel) rfl rfl ⟨trivial, trivial, rfl, rfl, trivial, trivial, trivial, trivial, trivial⟩ ?_
  refine q_lc_eq (off := 12) (tgt := 29) (by decide +kernel) (by decide +kernel) (by decide) (fun c16_1 => ?_) (fun c16_1 => ?_)
  · rw [if_pos c16_1] at h
    refine q_pick [] rfl ?_
    exact t_X9_keepTaken_29 h
  · rw [if_neg c16_1] at h
    have b1 : ¬ (2 * (z.2 126 0)) = (0 : Int64) := by
      by_cases q : ¬ (2 * (z.2 126 0)) = (0 : Int64)
      · exact q
      · rw [if_neg q] at h; cases h
    rw [if_pos b1] at h
    refine q_blk2 (pc2 := 25) (ls2 := [(5, .long (2 * (z.2 126 0))), (0, .ref 1), (1, .long l1), (3, .long l3)]) (st2 := [.long 0, .long (l1 - l1 / (2 * (z.2 126 0)) * (2 * (z.2 126 0)))]) (h2 := (q_K0, z.1, z.2, q_R0)) [(.lload_n 1, 0, 0, 0, 0, 0), (.lload 5, 0, 0, 0, 0, 0), (.lrem, 0, 0, 0, 0, 0), (.lconst 0, 0, 0, 0, 0, 0)] (by decide +kernel) rfl rfl ⟨trivial, trivial, b1, trivial, trivial⟩ ?_
    refine q_lc_eq (off := 5) (tgt := 31) (by decide +kernel) (by decide +kernel) (by decide) (fun c25_2 => ?_) (fun c25_2 => ?_)
    · rw [if_pos c25_2] at h
      have b2 : ¬ (2 * (z.2 126 0)) = (0 : Int64) := by
        by_cases q : ¬ (2 * (z.2 126 0)) = (0 : Int64)
        · exact q
        · rw [if_neg q] at h; cases h
      rw [if_pos b2] at h
      refine q_blk2 (pc2 := 91) (ls2 := [(10, .int (Int64.toInt32 (((z.2 127 2) * (l1 / (2 * (z.2 126 0)))) + ((z.2 127 3) * l3)))), (9, .int (Int64.toInt32 (((z.2 127 0) * (l1 / (2 * (z.2 126 0)))) + ((z.2 127 1) * l3)))), (7, .long (l1 / (2 * (z.2 126 0)))), (5, .long (2 * (z.2 126 0))), (0, .ref 1), (1, .long l1), (3, .long l3)]) (st2 := [.int (Int64.toInt32 (((z.2 127 2) * (l1 / (2 * (z.2 126 0)))) + ((z.2 127 3) * l3))), .int (Int64.toInt32 (((z.2 127 0) * (l1 / (2 * (z.2 126 0)))) + ((z.2 127 1) * l3))), .ref 122]) (h2 := (q_K0, z.1, z.2, q_R0)) [(.lload_n 1, 0, 0, 0, 0, 0), (.lload 5, 0, 0, 0, 0, 0), (.ldiv, 0, 0, 0, 0, 0), (.lstore 7, 0, 0, 0, 0, 0), (.aload_n 0, 0, 0, 0, 0, 0), (.getfield 63, 0, 8, 8, 0, 0), (.getfield 139, 0, 7, 0, 0, 0), (.lload 7, 0, 0, 0, 0, 0), (.lmul, 0, 0, 0, 0, 0), (.aload_n 0, 0, 0, 0, 0, 0), (.getfield 63, 0, 8, 8, 0, 0), (.getfield 142, 0, 7, 1, 0, 0), (.lload_n 3, 0, 0, 0, 0, 0), (.lmul, 0, 0, 0, 0, 0), (.ladd, 0, 0, 0, 0, 0), (.l2i, 0, 0, 0, 0, 0), (.istore 9, 0, 0, 0, 0, 0), (.aload_n 0, 0, 0, 0, 0, 0), (.getfield 63, 0, 8, 8, 0, 0), (.getfield 145, 0, 7, 2, 0, 0), (.lload 7, 0, 0, 0, 0, 0), (.lmul, 0, 0, 0, 0, 0), (.aload_n 0, 0, 0, 0, 0, 0), (.getfield 63, 0, 8, 8, 0, 0), (.getfield 148, 0, 7, 3, 0, 0), (.lload_n 3, 0, 0, 0, 0, 0), (.lmul, 0, 0, 0, 0, 0), (.ladd, 0, 0, 0, 0, 0), (.l2i, 0, 0, 0, 0, 0), (.istore 10, 0, 0, 0, 0, 0), (.aload_n 0, 0, 0, 0, 0, 0), (.getfield 45, 0, 8, 5, 0, 0), (.iload 9, 0, 0, 0, 0, 0), (.iload 10, 0, 0, 0, 0, 0)] (by decide +kernel) rfl rfl ⟨trivial, trivial, b2, trivial, trivial, rfl, rfl, trivial, trivial, trivial, rfl, rfl, trivial, trivial, trivial, trivial, trivial, trivial, rfl, rfl, trivial, trivial, trivial, rfl, rfl, trivial, trivial, trivial, trivial, trivial, trivial, rfl, trivial, trivial, trivial⟩ ?_
      obtain ⟨⟨_, z4⟩, hc7, h⟩ := Option.bind_eq_some_iff.mp h
      dsimp only at h
      refine q_cV0 (idx := 301) (h1 := (q_K0, z4.1, z4.2, q_R0)) [.int (Int64.toInt32 (((z.2 127 2) * (l1 / (2 * (z.2 126 0)))) + ((z.2 127 3) * l3))), .int (Int64.toInt32 (((z.2 127 0) * (l1 / (2 * (z.2 126 0)))) + ((z.2 127 1) * l3))), .ref 122] 34 122 4 [.int (Int64.toInt32 (((z.2 127 0) * (l1 / (2 * (z.2 126 0)))) + ((z.2 127 1) * l3))), .int (Int64.toInt32 (((z.2 127 2) * (l1 / (2 * (z.2 126 0)))) + ((z.2 127 3) * l3)))] [] rfl (by decide +kernel) (by decide +kernel) rfl (Nat.le_of_ble_eq_true rfl) rfl (by decide) (by decide +kernel) (by decide +kernel) (s_X4_insert hc7) ?_
      refine q_blk2 (pc2 := 96) (ls2 := [(10, .int (Int64.toInt32 (((z.2 127 2) * (l1 / (2 * (z.2 126 0)))) + ((z.2 127 3) * l3)))), (9, .int (Int64.toInt32 (((z.2 127 0) * (l1 / (2 * (z.2 126 0)))) + ((z.2 127 1) * l3)))), (7, .long (l1 / (2 * (z.2 126 0)))), (5, .long (2 * (z.2 126 0))), (0, .ref 1), (1, .long l1), (3, .long l3)]) (st2 := [.long 0, .long l3]) (h2 := (q_K0, z4.1, z4.2, q_R0)) [(.lload_n 3, 0, 0, 0, 0, 0), (.lconst 0, 0, 0, 0, 0, 0)] (by decide +kernel) rfl rfl ⟨trivial, trivial, trivial⟩ ?_
      refine q_lc_ne (off := 5) (tgt := 102) (by decide +kernel) (by decide +kernel) (by decide) (fun c96_3 => ?_) (fun c96_3 => ?_)
      · rw [if_neg c96_3] at h
        refine q_blk2 (pc2 := 112) (ls2 := [(10, .int (Int64.toInt32 (((z.2 127 2) * (l1 / (2 * (z.2 126 0)))) + ((z.2 127 3) * l3)))), (9, .int (Int64.toInt32 (((z.2 127 0) * (l1 / (2 * (z.2 126 0)))) + ((z.2 127 1) * l3)))), (7, .long (l1 / (2 * (z.2 126 0)))), (5, .long (2 * (z.2 126 0))), (0, .ref 1), (1, .long l1), (3, .long l3)]) (st2 := [.int (-(Int64.toInt32 (((z.2 127 2) * (l1 / (2 * (z.2 126 0)))) + ((z.2 127 3) * l3)))), .int (-(Int64.toInt32 (((z.2 127 0) * (l1 / (2 * (z.2 126 0)))) + ((z.2 127 1) * l3)))), .ref 122]) (h2 := (q_K0, z4.1, z4.2, q_R0)) [(.aload_n 0, 0, 0, 0, 0, 0), (.getfield 45, 0, 8, 5, 0, 0), (.iload 9, 0, 0, 0, 0, 0), (.ineg, 0, 0, 0, 0, 0), (.iload 10, 0, 0, 0, 0, 0), (.ineg, 0, 0, 0, 0, 0)] (by decide +kernel) rfl rfl ⟨trivial, rfl, trivial, trivial, trivial, trivial, trivial⟩ ?_
        obtain ⟨⟨_, z6⟩, hc8, h⟩ := Option.bind_eq_some_iff.mp h
        dsimp only at h
        refine q_cV0 (idx := 301) (h1 := (q_K0, z6.1, z6.2, q_R0)) [.int (-(Int64.toInt32 (((z.2 127 2) * (l1 / (2 * (z.2 126 0)))) + ((z.2 127 3) * l3)))), .int (-(Int64.toInt32 (((z.2 127 0) * (l1 / (2 * (z.2 126 0)))) + ((z.2 127 1) * l3)))), .ref 122] 34 122 4 [.int (-(Int64.toInt32 (((z.2 127 0) * (l1 / (2 * (z.2 126 0)))) + ((z.2 127 1) * l3)))), .int (-(Int64.toInt32 (((z.2 127 2) * (l1 / (2 * (z.2 126 0)))) + ((z.2 127 3) * l3))))] [] rfl (by decide +kernel) (by decide +kernel) rfl (Nat.le_of_ble_eq_true rfl) rfl (by decide) (by decide +kernel) (by decide +kernel) (s_X4_insert hc8) ?_
        refine q_blk2 (pc2 := 116) (ls2 := [(10, .int (Int64.toInt32 (((z.2 127 2) * (l1 / (2 * (z.2 126 0)))) + ((z.2 127 3) * l3)))), (9, .int (Int64.toInt32 (((z.2 127 0) * (l1 / (2 * (z.2 126 0)))) + ((z.2 127 1) * l3)))), (7, .long (l1 / (2 * (z.2 126 0)))), (5, .long (2 * (z.2 126 0))), (0, .ref 1), (1, .long l1), (3, .long l3)]) (st2 := [.int 2]) (h2 := (q_K0, z6.1, z6.2, q_R0)) [(.iconst 2, 0, 0, 0, 2, 0)] (by decide +kernel) rfl rfl ⟨trivial, trivial⟩ ?_
        cases h
        exact q_iret .int rfl rfl (by decide +kernel)
      · rw [if_pos c96_3] at h
        refine q_blk2 (pc2 := 101) (ls2 := [(10, .int (Int64.toInt32 (((z.2 127 2) * (l1 / (2 * (z.2 126 0)))) + ((z.2 127 3) * l3)))), (9, .int (Int64.toInt32 (((z.2 127 0) * (l1 / (2 * (z.2 126 0)))) + ((z.2 127 1) * l3)))), (7, .long (l1 / (2 * (z.2 126 0)))), (5, .long (2 * (z.2 126 0))), (0, .ref 1), (1, .long l1), (3, .long l3)]) (st2 := [.int 1]) (h2 := (q_K0, z4.1, z4.2, q_R0)) [(.iconst 1, 0, 0, 0, 1, 0)] (by decide +kernel) rfl rfl ⟨trivial, trivial⟩ ?_
        cases h
        exact q_iret .int rfl rfl (by decide +kernel)
    · rw [if_neg c25_2] at h
      refine q_pick [] rfl ?_
      exact t_X9_keepTaken_29 h
def B_X9_countTaken_75 : Int64 × Int64 × Int32 × Int64 × Int64 × q_Z → Option ((Int64 × Int64 × Int32 × Int64 × Int64 × q_Z) × Nat) := fun (l2, l4, l6, l7, l9, z) =>
  if l4 ≤ (0 : Int64) then
    some ((l2, l4, l6, l7, l9, z), 1)
  else
    if (l4 * l4) ≤ l9 then
      some ((l2, l4, l6, l7, l9, z), 1)
    else
      some ((l2, l4 - 1, l6, l7, l9, z), 0)
set_option maxRecDepth 100000 in
set_option maxHeartbeats 4000000 in
theorem b_X9_countTaken_75 {s s2 : Int64 × Int64 × Int32 × Int64 × Int64 × q_Z} {t : Nat} {r : Option Value} {h2 : q_H} (h : B_X9_countTaken_75 s = some (s2, t)) (k0 : t = 0 → q_Ex none 93 75 [(0, .ref 1), (2, .long s2.1), (4, .long s2.2.1), (6, .int s2.2.2.1), (7, .long s2.2.2.2.1), (9, .long s2.2.2.2.2.1)] [] (q_K0, s2.2.2.2.2.2.1, s2.2.2.2.2.2.2, q_R0) r h2) (k1 : t = 1 → q_Ex none 93 102 [(0, .ref 1), (2, .long s2.1), (4, .long s2.2.1), (6, .int s2.2.2.1), (7, .long s2.2.2.2.1), (9, .long s2.2.2.2.2.1)] [] (q_K0, s2.2.2.2.2.2.1, s2.2.2.2.2.2.2, q_R0) r h2) : q_Ex none 93 75 [(0, .ref 1), (2, .long s.1), (4, .long s.2.1), (6, .int s.2.2.1), (7, .long s.2.2.2.1), (9, .long s.2.2.2.2.1)] [] (q_K0, s.2.2.2.2.2.1, s.2.2.2.2.2.2, q_R0) r h2 := by
  unfold B_X9_countTaken_75 at h
  obtain ⟨l2, l4, l6, l7, l9, z⟩ := s
  dsimp only at h
  show q_Ex none 93 75 [(0, .ref 1), (2, .long l2), (4, .long l4), (6, .int l6), (7, .long l7), (9, .long l9)] [] (q_K0, z.1, z.2, q_R0) r h2
  refine q_blk2 (pc2 := 78) (ls2 := [(0, .ref 1), (2, .long l2), (4, .long l4), (6, .int l6), (7, .long l7), (9, .long l9)]) (st2 := [.long 0, .long l4]) (h2 := (q_K0, z.1, z.2, q_R0)) [(.lload 4, 0, 0, 0, 0, 0), (.lconst 0, 0, 0, 0, 0, 0)] (by decide +kernel) rfl rfl ⟨trivial, trivial, trivial⟩ ?_
  refine q_lc_le (off := 23) (tgt := 102) (by decide +kernel) (by decide +kernel) (by decide) (fun c78_1 => ?_) (fun c78_1 => ?_)
  · rw [if_pos c78_1] at h
    cases h
    refine q_pick [0, 1, 2, 3, 4, 5] rfl ?_
    exact k1 rfl
  · rw [if_neg c78_1] at h
    refine q_blk2 (pc2 := 89) (ls2 := [(0, .ref 1), (2, .long l2), (4, .long l4), (6, .int l6), (7, .long l7), (9, .long l9)]) (st2 := [.long l9, .long (l4 * l4)]) (h2 := (q_K0, z.1, z.2, q_R0)) [(.lload 4, 0, 0, 0, 0, 0), (.lload 4, 0, 0, 0, 0, 0), (.lmul, 0, 0, 0, 0, 0), (.lload 9, 0, 0, 0, 0, 0)] (by decide +kernel) rfl rfl ⟨trivial, trivial, trivial, trivial, trivial⟩ ?_
    refine q_lc_le (off := 12) (tgt := 102) (by decide +kernel) (by decide +kernel) (by decide) (fun c89_2 => ?_) (fun c89_2 => ?_)
    · rw [if_pos c89_2] at h
      cases h
      refine q_pick [0, 1, 2, 3, 4, 5] rfl ?_
      exact k1 rfl
    · rw [if_neg c89_2] at h
      refine q_blk2 (pc2 := 99) (ls2 := [(4, .long (l4 - 1)), (0, .ref 1), (2, .long l2), (6, .int l6), (7, .long l7), (9, .long l9)]) (st2 := []) (h2 := (q_K0, z.1, z.2, q_R0)) [(.lload 4, 0, 0, 0, 0, 0), (.lconst 1, 0, 0, 0, 0, 1), (.lsub, 0, 0, 0, 0, 0), (.lstore 4, 0, 0, 0, 0, 0)] (by decide +kernel) rfl rfl ⟨trivial, trivial, trivial, trivial, trivial⟩ ?_
      refine q_goto (off := -24) (tgt := 75) (by decide +kernel) (by decide) ?_
      cases h
      refine q_pick [1, 2, 0, 3, 4, 5] rfl ?_
      exact k0 rfl
def T_X9_countTaken_172 (z : q_Z) (l2 : Int64) (l4 : Int64) (l6 : Int32) (l7 : Int64) : Option ((Int64 × Int64 × Int32 × Int64 × q_Z) × Nat) :=
  some ((l2, l4, l6, l7 + 1, z), 0)
set_option maxRecDepth 100000 in
set_option maxHeartbeats 4000000 in
theorem t_X9_countTaken_172 {z : q_Z} {l2 : Int64} {l4 : Int64} {l6 : Int32} {l7 : Int64} {s2 : Int64 × Int64 × Int32 × Int64 × q_Z} {t : Nat} {r : Option Value} {h2 : q_H} (h : T_X9_countTaken_172 z l2 l4 l6 l7 = some (s2, t)) (k0 : t = 0 → q_Ex none 93 27 [(0, .ref 1), (2, .long s2.1), (4, .long s2.2.1), (6, .int s2.2.2.1), (7, .long s2.2.2.2.1)] [] (q_K0, s2.2.2.2.2.1, s2.2.2.2.2.2, q_R0) r h2) (k1 : t = 1 → q_Ex none 93 181 [(0, .ref 1), (2, .long s2.1), (4, .long s2.2.1), (6, .int s2.2.2.1), (7, .long s2.2.2.2.1)] [] (q_K0, s2.2.2.2.2.1, s2.2.2.2.2.2, q_R0) r h2) : q_Ex none 93 172 [(0, .ref 1), (2, .long l2), (4, .long l4), (6, .int l6), (7, .long l7)] [] (q_K0, z.1, z.2, q_R0) r h2 := by
  unfold T_X9_countTaken_172 at h
  refine q_blk2 (pc2 := 178) (ls2 := [(7, .long (l7 + 1)), (0, .ref 1), (2, .long l2), (4, .long l4), (6, .int l6)]) (st2 := []) (h2 := (q_K0, z.1, z.2, q_R0)) [(.lload 7, 0, 0, 0, 0, 0), (.lconst 1, 0, 0, 0, 0, 1), (.ladd, 0, 0, 0, 0, 0), (.lstore 7, 0, 0, 0, 0, 0)] (by decide +kernel) rfl rfl ⟨trivial, trivial, trivial, trivial, trivial⟩ ?_
  refine q_goto (off := -151) (tgt := 27) (by decide +kernel) (by decide) ?_
  cases h
  refine q_pick [1, 2, 3, 4, 0] rfl ?_
  exact k0 rfl
def T_X9_countTaken_102 (z : q_Z) (l2 : Int64) (l4 : Int64) (l6 : Int32) (l7 : Int64) (l9 : Int64) : Option ((Int64 × Int64 × Int32 × Int64 × q_Z) × Nat) :=
  if (l4 * l4) = l9 then
    (F_X9_keepTaken z (l4 - ((z.2 126 1) * l7)) l7).bind fun (r9, z10) =>
      if l4 ≤ (0 : Int64) then
        T_X9_countTaken_172 z10 l2 l4 (l6 + r9) l7
      else
        (F_X9_keepTaken z10 ((-l4) - ((z10.2 126 1) * l7)) l7).bind fun (r11, z12) =>
          T_X9_countTaken_172 z12 l2 l4 ((l6 + r9) + r11) l7
  else
    T_X9_countTaken_172 z l2 l4 l6 l7
set_option maxRecDepth 100000 in
set_option maxHeartbeats 4000000 in
theorem t_X9_countTaken_102 {z : q_Z} {l2 : Int64} {l4 : Int64} {l6 : Int32} {l7 : Int64} {l9 : Int64} {s2 : Int64 × Int64 × Int32 × Int64 × q_Z} {t : Nat} {r : Option Value} {h2 : q_H} (h : T_X9_countTaken_102 z l2 l4 l6 l7 l9 = some (s2, t)) (k0 : t = 0 → q_Ex none 93 27 [(0, .ref 1), (2, .long s2.1), (4, .long s2.2.1), (6, .int s2.2.2.1), (7, .long s2.2.2.2.1)] [] (q_K0, s2.2.2.2.2.1, s2.2.2.2.2.2, q_R0) r h2) (k1 : t = 1 → q_Ex none 93 181 [(0, .ref 1), (2, .long s2.1), (4, .long s2.2.1), (6, .int s2.2.2.1), (7, .long s2.2.2.2.1)] [] (q_K0, s2.2.2.2.2.1, s2.2.2.2.2.2, q_R0) r h2) : q_Ex none 93 102 [(0, .ref 1), (2, .long l2), (4, .long l4), (6, .int l6), (7, .long l7), (9, .long l9)] [] (q_K0, z.1, z.2, q_R0) r h2 := by
  unfold T_X9_countTaken_102 at h
  refine q_blk2 (pc2 := 109) (ls2 := [(0, .ref 1), (2, .long l2), (4, .long l4), (6, .int l6), (7, .long l7), (9, .long l9)]) (st2 := [.long l9, .long (l4 * l4)]) (h2 := (q_K0, z.1, z.2, q_R0)) [(.lload 4, 0, 0, 0, 0, 0), (.lload 4, 0, 0, 0, 0, 0), (.lmul, 0, 0, 0, 0, 0), (.lload 9, 0, 0, 0, 0, 0)] (by decide +kernel) rfl rfl ⟨trivial, trivial, trivial, trivial, trivial⟩ ?_
  refine q_lc_eq (off := 6) (tgt := 116) (by decide +kernel) (by decide +kernel) (by decide) (fun c109_1 => ?_) (fun c109_1 => ?_)
  · rw [if_pos c109_1] at h
    refine q_blk2 (pc2 := 134) (ls2 := [(0, .ref 1), (2, .long l2), (4, .long l4), (6, .int l6), (7, .long l7), (9, .long l9)]) (st2 := [.long l7, .long (l4 - ((z.2 126 1) * l7)), .ref 1, .int l6]) (h2 := (q_K0, z.1, z.2, q_R0)) [(.iload 6, 0, 0, 0, 0, 0), (.aload_n 0, 0, 0, 0, 0, 0), (.lload 4, 0, 0, 0, 0, 0), (.aload_n 0, 0, 0, 0, 0, 0), (.getfield 59, 0, 8, 7, 0, 0), (.getfield 192, 0, 1, 1, 0, 0), (.lload 7, 0, 0, 0, 0, 0), (.lmul, 0, 0, 0, 0, 0), (.lsub, 0, 0, 0, 0, 0), (.lload 7, 0, 0, 0, 0, 0)] (by decide +kernel) rfl rfl ⟨trivial, trivial, trivial, trivial, rfl, rfl, trivial, trivial, trivial, trivial, trivial⟩ ?_
    obtain ⟨⟨r9, z10⟩, hc13, h⟩ := Option.bind_eq_some_iff.mp h
    dsimp only at h
    refine q_cV1 (idx := 297) (v := .int r9) (h1 := (q_K0, z10.1, z10.2, q_R0)) [.long l7, .long (l4 - ((z.2 126 1) * l7)), .ref 1, .int l6] 94 1 8 [.long (l4 - ((z.2 126 1) * l7)), .long l7] [.int l6] rfl (by decide +kernel) (by decide +kernel) rfl (Nat.le_of_ble_eq_true rfl) rfl (by decide) (by decide +kernel) (by decide +kernel) (s_X9_keepTaken hc13) ?_
    refine q_blk2 (pc2 := 143) (ls2 := [(6, .int (l6 + r9)), (0, .ref 1), (2, .long l2), (4, .long l4), (7, .long l7), (9, .long l9)]) (st2 := [.long 0, .long l4]) (h2 := (q_K0, z10.1, z10.2, q_R0)) [(.iadd, 0, 0, 0, 0, 0), (.istore 6, 0, 0, 0, 0, 0), (.lload 4, 0, 0, 0, 0, 0), (.lconst 0, 0, 0, 0, 0, 0)] (by decide +kernel) rfl rfl ⟨trivial, trivial, trivial, trivial, trivial⟩ ?_
    refine q_lc_le (off := 28) (tgt := 172) (by decide +kernel) (by decide +kernel) (by decide) (fun c143_2 => ?_) (fun c143_2 => ?_)
    · rw [if_pos c143_2] at h
      refine q_pick [1, 2, 3, 0, 4] rfl ?_
      exact t_X9_countTaken_172 h k0 k1
    · rw [if_neg c143_2] at h
      refine q_blk2 (pc2 := 166) (ls2 := [(6, .int (l6 + r9)), (0, .ref 1), (2, .long l2), (4, .long l4), (7, .long l7), (9, .long l9)]) (st2 := [.long l7, .long ((-l4) - ((z10.2 126 1) * l7)), .ref 1, .int (l6 + r9)]) (h2 := (q_K0, z10.1, z10.2, q_R0)) [(.iload 6, 0, 0, 0, 0, 0), (.aload_n 0, 0, 0, 0, 0, 0), (.lload 4, 0, 0, 0, 0, 0), (.lneg, 0, 0, 0, 0, 0), (.aload_n 0, 0, 0, 0, 0, 0), (.getfield 59, 0, 8, 7, 0, 0), (.getfield 192, 0, 1, 1, 0, 0), (.lload 7, 0, 0, 0, 0, 0), (.lmul, 0, 0, 0, 0, 0), (.lsub, 0, 0, 0, 0, 0), (.lload 7, 0, 0, 0, 0, 0)] (by decide +kernel) rfl rfl ⟨trivial, trivial, trivial, trivial, trivial, rfl, rfl, trivial, trivial, trivial, trivial, trivial⟩ ?_
      obtain ⟨⟨r11, z12⟩, hc14, h⟩ := Option.bind_eq_some_iff.mp h
      dsimp only at h
      refine q_cV1 (idx := 297) (v := .int r11) (h1 := (q_K0, z12.1, z12.2, q_R0)) [.long l7, .long ((-l4) - ((z10.2 126 1) * l7)), .ref 1, .int (l6 + r9)] 94 1 8 [.long ((-l4) - ((z10.2 126 1) * l7)), .long l7] [.int (l6 + r9)] rfl (by decide +kernel) (by decide +kernel) rfl (Nat.le_of_ble_eq_true rfl) rfl (by decide) (by decide +kernel) (by decide +kernel) (s_X9_keepTaken hc14) ?_
      refine q_blk2 (pc2 := 172) (ls2 := [(6, .int ((l6 + r9) + r11)), (0, .ref 1), (2, .long l2), (4, .long l4), (7, .long l7), (9, .long l9)]) (st2 := []) (h2 := (q_K0, z12.1, z12.2, q_R0)) [(.iadd, 0, 0, 0, 0, 0), (.istore 6, 0, 0, 0, 0, 0)] (by decide +kernel) rfl rfl ⟨trivial, trivial, trivial⟩ ?_
      refine q_pick [1, 2, 3, 0, 4] rfl ?_
      exact t_X9_countTaken_172 h k0 k1
  · rw [if_neg c109_1] at h
    refine q_goto (off := 59) (tgt := 172) (by decide +kernel) (by decide) ?_
    refine q_pick [0, 1, 2, 3, 4] rfl ?_
    exact t_X9_countTaken_172 h k0 k1
def B_X9_countTaken_27 : Int64 × Int64 × Int32 × Int64 × q_Z → Option ((Int64 × Int64 × Int32 × Int64 × q_Z) × Nat) := fun (l2, l4, l6, l7, z) =>
  if (100000 : Int64) ≤ l7 then
    some ((l2, l4, l6, l7, z), 1)
  else
    if (l2 + (((Int32.toInt64 (z.1 4 0)) * l7) * l7)) < (0 : Int64) then
      some ((l2, l4, l6, l7, z), 1)
    else
      (q_lp (B_X9_countTaken_75) q_fu (l2, l4, l6, l7, l2 + (((Int32.toInt64 (z.1 4 0)) * l7) * l7), z)).bind fun ((w4, w5, w6, w7, w8, z3), tg) =>
        if tg = 0 then
          T_X9_countTaken_102 z3 w4 w5 w6 w7 w8
        else none
set_option maxRecDepth 100000 in
set_option maxHeartbeats 4000000 in
theorem b_X9_countTaken_27 {s s2 : Int64 × Int64 × Int32 × Int64 × q_Z} {t : Nat} {r : Option Value} {h2 : q_H} (h : B_X9_countTaken_27 s = some (s2, t)) (k0 : t = 0 → q_Ex none 93 27 [(0, .ref 1), (2, .long s2.1), (4, .long s2.2.1), (6, .int s2.2.2.1), (7, .long s2.2.2.2.1)] [] (q_K0, s2.2.2.2.2.1, s2.2.2.2.2.2, q_R0) r h2) (k1 : t = 1 → q_Ex none 93 181 [(0, .ref 1), (2, .long s2.1), (4, .long s2.2.1), (6, .int s2.2.2.1), (7, .long s2.2.2.2.1)] [] (q_K0, s2.2.2.2.2.1, s2.2.2.2.2.2, q_R0) r h2) : q_Ex none 93 27 [(0, .ref 1), (2, .long s.1), (4, .long s.2.1), (6, .int s.2.2.1), (7, .long s.2.2.2.1)] [] (q_K0, s.2.2.2.2.1, s.2.2.2.2.2, q_R0) r h2 := by
  unfold B_X9_countTaken_27 at h
  obtain ⟨l2, l4, l6, l7, z⟩ := s
  dsimp only at h
  show q_Ex none 93 27 [(0, .ref 1), (2, .long l2), (4, .long l4), (6, .int l6), (7, .long l7)] [] (q_K0, z.1, z.2, q_R0) r h2
  refine q_blk2 (pc2 := 32) (ls2 := [(0, .ref 1), (2, .long l2), (4, .long l4), (6, .int l6), (7, .long l7)]) (st2 := [.long 100000, .long l7]) (h2 := (q_K0, z.1, z.2, q_R0)) [(.lload 7, 0, 0, 0, 0, 0), (.ldc2_w 295, 0, 0, 0, 0, 100000)] (by decide +kernel) rfl rfl ⟨trivial, trivial, trivial⟩ ?_
  refine q_lc_ge (off := 148) (tgt := 181) (by decide +kernel) (by decide +kernel) (by decide) (fun c32_1 => ?_) (fun c32_1 => ?_)
  · rw [if_pos c32_1] at h
    cases h
    refine q_pick [0, 1, 2, 3, 4] rfl ?_
    exact k1 rfl
  · rw [if_neg c32_1] at h
    refine q_blk2 (pc2 := 53) (ls2 := [(0, .ref 1), (2, .long l2), (4, .long l4), (6, .int l6), (7, .long l7)]) (st2 := [.long 0, .long (l2 + (((Int32.toInt64 (z.1 4 0)) * l7) * l7))]) (h2 := (q_K0, z.1, z.2, q_R0)) [(.lload_n 2, 0, 0, 0, 0, 0), (.aload_n 0, 0, 0, 0, 0, 0), (.getfield 27, 0, 8, 2, 0, 0), (.getfield 151, 0, 2, 0, 0, 0), (.i2l, 0, 0, 0, 0, 0), (.lload 7, 0, 0, 0, 0, 0), (.lmul, 0, 0, 0, 0, 0), (.lload 7, 0, 0, 0, 0, 0), (.lmul, 0, 0, 0, 0, 0), (.ladd, 0, 0, 0, 0, 0), (.lconst 0, 0, 0, 0, 0, 0)] (by decide +kernel) rfl rfl ⟨trivial, trivial, rfl, rfl, trivial, trivial, trivial, trivial, trivial, trivial, trivial, trivial⟩ ?_
    refine q_lc_lt (off := 127) (tgt := 181) (by decide +kernel) (by decide +kernel) (by decide) (fun c53_2 => ?_) (fun c53_2 => ?_)
    · rw [if_pos c53_2] at h
      cases h
      refine q_pick [0, 1, 2, 3, 4] rfl ?_
      exact k1 rfl
    · rw [if_neg c53_2] at h
      refine q_blk2 (pc2 := 75) (ls2 := [(9, .long (l2 + (((Int32.toInt64 (z.1 4 0)) * l7) * l7))), (0, .ref 1), (2, .long l2), (4, .long l4), (6, .int l6), (7, .long l7)]) (st2 := []) (h2 := (q_K0, z.1, z.2, q_R0)) [(.lload_n 2, 0, 0, 0, 0, 0), (.aload_n 0, 0, 0, 0, 0, 0), (.getfield 27, 0, 8, 2, 0, 0), (.getfield 151, 0, 2, 0, 0, 0), (.i2l, 0, 0, 0, 0, 0), (.lload 7, 0, 0, 0, 0, 0), (.lmul, 0, 0, 0, 0, 0), (.lload 7, 0, 0, 0, 0, 0), (.lmul, 0, 0, 0, 0, 0), (.ladd, 0, 0, 0, 0, 0), (.lstore 9, 0, 0, 0, 0, 0)] (by decide +kernel) rfl rfl ⟨trivial, trivial, rfl, rfl, trivial, trivial, trivial, trivial, trivial, trivial, trivial, trivial⟩ ?_
      obtain ⟨⟨⟨w4, w5, w6, w7, w8, z3⟩, tg16⟩, hl15, h⟩ := Option.bind_eq_some_iff.mp h
      dsimp only at h
      refine q_pick [1, 2, 3, 4, 5, 0] rfl ?_
      refine q_lp_ok (P := fun s => q_Ex _ 93 75 [(0, .ref 1), (2, .long s.1), (4, .long s.2.1), (6, .int s.2.2.1), (7, .long s.2.2.2.1), (9, .long s.2.2.2.2.1)] [] (q_K0, s.2.2.2.2.2.1, s.2.2.2.2.2.2, q_R0) _ _) (X := fun u s => (u = 0 → q_Ex _ 93 102 [(0, .ref 1), (2, .long s.1), (4, .long s.2.1), (6, .int s.2.2.1), (7, .long s.2.2.2.1), (9, .long s.2.2.2.2.1)] [] (q_K0, s.2.2.2.2.2.1, s.2.2.2.2.2.2, q_R0) _ _)) (fun s s2 t hh k0 kx => b_X9_countTaken_75 hh k0 (fun e => (kx 0 e) rfl)) hl15 ?_
      · intro e_tg16
        subst e_tg16
        rw [if_pos rfl] at h
        show q_Ex _ 93 102 [(0, .ref 1), (2, .long w4), (4, .long w5), (6, .int w6), (7, .long w7), (9, .long w8)] [] (q_K0, z3.1, z3.2, q_R0) _ _
        refine q_pick [0, 1, 2, 3, 4, 5] rfl ?_
        exact t_X9_countTaken_102 h k0 k1
def T_X9_countTaken_181 (z : q_Z) (l6 : Int32) : Option (Int32 × q_Z) :=
  some (l6, z)
set_option maxRecDepth 100000 in
set_option maxHeartbeats 4000000 in
theorem t_X9_countTaken_181 {z zR : q_Z} {l6 : Int32} {rv : Int32} (h : T_X9_countTaken_181 z l6 = some (rv, zR)) : q_Ex none 93 181 [(6, .int l6)] [] (q_K0, z.1, z.2, q_R0) (some (.int rv)) (q_K0, zR.1, zR.2, q_R0) := by
  unfold T_X9_countTaken_181 at h
  refine q_blk2 (pc2 := 183) (ls2 := [(6, .int l6)]) (st2 := [.int l6]) (h2 := (q_K0, z.1, z.2, q_R0)) [(.iload 6, 0, 0, 0, 0, 0)] (by decide +kernel) rfl rfl ⟨trivial, trivial⟩ ?_
  cases h
  exact q_iret .int rfl rfl (by decide +kernel)
/-- RootForms.countTaken(I)I -/
def F_X9_countTaken (z : q_Z) (l1 : Int32) : Option (Int32 × q_Z) :=
  (F_X7_rootOf z ((4 * (z.2 126 0)) * (Int32.toInt64 l1))).bind fun (r1, z2) =>
    (q_lp (B_X9_countTaken_27) q_fu ((4 * (z.2 126 0)) * (Int32.toInt64 l1), r1, 0, 0, z2)).bind fun ((w18, w19, w20, w21, z17), tg) =>
      if tg = 0 then
        T_X9_countTaken_181 z17 w20
      else none
set_option maxRecDepth 100000 in
set_option maxHeartbeats 4000000 in
theorem s_X9_countTaken {z zR : q_Z} {l1 : Int32} {rv : Int32} (h : F_X9_countTaken z l1 = some (rv, zR)) : q_Ca 93 [.ref 1, .int l1] (q_K0, z.1, z.2, q_R0) (some (.int rv)) (q_K0, zR.1, zR.2, q_R0) := by
  refine q_Ca_of (by decide) (Nat.le_of_ble_eq_true rfl) ?_
  show q_Ex none 93 0 [(0, .ref 1), (1, .int l1)] [] (q_K0, z.1, z.2, q_R0) _ _
  unfold F_X9_countTaken at h
  refine q_blk2 (pc2 := 16) (ls2 := [(2, .long ((4 * (z.2 126 0)) * (Int32.toInt64 l1))), (0, .ref 1), (1, .int l1)]) (st2 := [.long ((4 * (z.2 126 0)) * (Int32.toInt64 l1))]) (h2 := (q_K0, z.1, z.2, q_R0)) [(.ldc2_w 232, 0, 0, 0, 0, 4), (.aload_n 0, 0, 0, 0, 0, 0), (.getfield 59, 0, 8, 7, 0, 0), (.getfield 288, 0, 1, 0, 0, 0), (.lmul, 0, 0, 0, 0, 0), (.iload_n 1, 0, 0, 0, 0, 0), (.i2l, 0, 0, 0, 0, 0), (.lmul, 0, 0, 0, 0, 0), (.lstore_n 2, 0, 0, 0, 0, 0), (.lload_n 2, 0, 0, 0, 0, 0)] (by decide +kernel) rfl rfl ⟨trivial, trivial, rfl, rfl, trivial, trivial, trivial, trivial, trivial, trivial, trivial⟩ ?_
  obtain ⟨⟨r1, z2⟩, hc22, h⟩ := Option.bind_eq_some_iff.mp h
  dsimp only at h
  refine q_cS1 (idx := 291) (v := .long r1) (h1 := (q_K0, z2.1, z2.2, q_R0)) [.long ((4 * (z.2 126 0)) * (Int32.toInt64 l1))] 48 [.long ((4 * (z.2 126 0)) * (Int32.toInt64 l1))] [] rfl (by decide +kernel) (by decide +kernel) rfl (Nat.le_of_ble_eq_true rfl) (by decide +kernel) (s_X7_rootOf hc22) ?_
  refine q_blk2 (pc2 := 27) (ls2 := [(7, .long 0), (6, .int 0), (4, .long r1), (2, .long ((4 * (z.2 126 0)) * (Int32.toInt64 l1))), (0, .ref 1), (1, .int l1)]) (st2 := []) (h2 := (q_K0, z2.1, z2.2, q_R0)) [(.lstore 4, 0, 0, 0, 0, 0), (.iconst 0, 0, 0, 0, 0, 0), (.istore 6, 0, 0, 0, 0, 0), (.lconst 0, 0, 0, 0, 0, 0), (.lstore 7, 0, 0, 0, 0, 0)] (by decide +kernel) rfl rfl ⟨trivial, trivial, trivial, trivial, trivial, trivial⟩ ?_
  obtain ⟨⟨⟨w18, w19, w20, w21, z17⟩, tg24⟩, hl23, h⟩ := Option.bind_eq_some_iff.mp h
  dsimp only at h
  refine q_pick [4, 3, 2, 1, 0] rfl ?_
  refine q_lp_ok (P := fun s => q_Ex _ 93 27 [(0, .ref 1), (2, .long s.1), (4, .long s.2.1), (6, .int s.2.2.1), (7, .long s.2.2.2.1)] [] (q_K0, s.2.2.2.2.1, s.2.2.2.2.2, q_R0) _ _) (X := fun u s => (u = 0 → q_Ex _ 93 181 [(0, .ref 1), (2, .long s.1), (4, .long s.2.1), (6, .int s.2.2.1), (7, .long s.2.2.2.1)] [] (q_K0, s.2.2.2.2.1, s.2.2.2.2.2, q_R0) _ _)) (fun s s2 t hh k0 kx => b_X9_countTaken_27 hh k0 (fun e => (kx 0 e) rfl)) hl23 ?_
  · intro e_tg24
    subst e_tg24
    rw [if_pos rfl] at h
    show q_Ex _ 93 181 [(0, .ref 1), (2, .long w18), (4, .long w19), (6, .int w20), (7, .long w21)] [] (q_K0, z17.1, z17.2, q_R0) _ _
    refine q_pick [3] rfl ?_
    exact t_X9_countTaken_181 h
def T_X9_takes_46 (z : q_Z) : Option (Int32 × q_Z) :=
  (F_X9_refuse z 1).bind fun (r6, z7) =>
    some (r6, z7)
set_option maxRecDepth 100000 in
set_option maxHeartbeats 4000000 in
theorem t_X9_takes_46 {z zR : q_Z} {rv : Int32} (h : T_X9_takes_46 z = some (rv, zR)) : q_Ex none 82 46 [(0, .ref 1)] [] (q_K0, z.1, z.2, q_R0) (some (.int rv)) (q_K0, zR.1, zR.2, q_R0) := by
  unfold T_X9_takes_46 at h
  refine q_blk2 (pc2 := 48) (ls2 := [(0, .ref 1)]) (st2 := [.int 1, .ref 1]) (h2 := (q_K0, z.1, z.2, q_R0)) [(.aload_n 0, 0, 0, 0, 0, 0), (.iconst 1, 0, 0, 0, 1, 0)] (by decide +kernel) rfl rfl ⟨trivial, trivial, trivial⟩ ?_
  obtain ⟨⟨r6, z7⟩, hc8, h⟩ := Option.bind_eq_some_iff.mp h
  dsimp only at h
  refine q_cV1 (idx := 86) (v := .int r6) (h1 := (q_K0, z7.1, z7.2, q_R0)) [.int 1, .ref 1] 89 1 8 [.int 1] [] rfl (by decide +kernel) (by decide +kernel) rfl (Nat.le_of_ble_eq_true rfl) rfl (by decide) (by decide +kernel) (by decide +kernel) (s_X9_refuse hc8) ?_
  cases h
  exact q_iret .int rfl rfl (by decide +kernel)
/-- RootForms.takes(II)I -/
def F_X9_takes (z : q_Z) (l1 : Int32) (l2 : Int32) : Option (Int32 × q_Z) :=
  (F_X6_at z l1).bind fun (r1, z2) =>
    match r1 with
    | none =>
      (F_X9_refuse z2 2).bind fun (r4, z5) =>
        some (r4, z5)
    | some oo3 =>
      if (z2.1 4 0) ≤ (0 : Int32) then
        if l2 < (1 : Int32) then
          T_X9_takes_46 z2
        else
          if l2 ≤ (100000 : Int32) then
            (F_X1_copy 126 oo3 z2).bind fun (_, z10) =>
              (F_X2_lead 126 127 z10).bind fun (r11, z12) =>
                (F_X4_clear z12).bind fun (_, z14) =>
                  (F_X9_countTaken z14 l2).bind fun (r15, z16) =>
                    (F_X9_accept z16 r15).bind fun (r17, z18) =>
                      some (r17, z18)
          else
            T_X9_takes_46 z2
      else
        (F_X9_refuse z2 5).bind fun (r19, z20) =>
          some (r19, z20)
set_option maxRecDepth 100000 in
set_option maxHeartbeats 4000000 in
theorem s_X9_takes {z zR : q_Z} {l1 : Int32} {l2 : Int32} {rv : Int32} (h : F_X9_takes z l1 l2 = some (rv, zR)) : q_Ca 82 [.ref 1, .int l1, .int l2] (q_K0, z.1, z.2, q_R0) (some (.int rv)) (q_K0, zR.1, zR.2, q_R0) := by
  refine q_Ca_of (by decide) (Nat.le_of_ble_eq_true rfl) ?_
  show q_Ex none 82 0 [(0, .ref 1), (1, .int l1), (2, .int l2)] [] (q_K0, z.1, z.2, q_R0) _ _
  unfold F_X9_takes at h
  refine q_blk2 (pc2 := 5) (ls2 := [(0, .ref 1), (1, .int l1), (2, .int l2)]) (st2 := [.int l1, .ref 17]) (h2 := (q_K0, z.1, z.2, q_R0)) [(.aload_n 0, 0, 0, 0, 0, 0), (.getfield 31, 0, 8, 3, 0, 0), (.iload_n 1, 0, 0, 0, 0, 0)] (by decide +kernel) rfl rfl ⟨trivial, rfl, trivial, trivial⟩ ?_
  obtain ⟨⟨r1, z2⟩, hc21, h⟩ := Option.bind_eq_some_iff.mp h
  dsimp only at h
  refine q_cV1 (idx := 109) (v := va_rf r1) (h1 := (q_K0, z2.1, z2.2, q_R0)) [.int l1, .ref 17] 44 17 6 [.int l1] [] rfl (by decide +kernel) (by decide +kernel) rfl (Nat.le_of_ble_eq_true rfl) rfl (by decide) (by decide +kernel) (by decide +kernel) (s_X6_at hc21) ?_
  rcases he22 : r1 with _ | oo3
  · rw [he22] at h
    dsimp only at h
    show q_Ex _ _ 8 [(0, .ref 1), (1, .int l1), (2, .int l2)] (.null :: []) (q_K0, z2.1, z2.2, q_R0) _ _
    refine q_blk2 (pc2 := 10) (ls2 := [(3, .null), (0, .ref 1), (1, .int l1), (2, .int l2)]) (st2 := [.null]) (h2 := (q_K0, z2.1, z2.2, q_R0)) [(.astore_n 3, 0, 0, 0, 0, 0), (.aload_n 3, 0, 0, 0, 0, 0)] (by decide +kernel) rfl rfl ⟨trivial, trivial, trivial⟩ ?_
    refine q_non_n (off := 9) (by decide +kernel) ?_
    refine q_blk2 (pc2 := 15) (ls2 := [(3, .null), (0, .ref 1), (1, .int l1), (2, .int l2)]) (st2 := [.int 2, .ref 1]) (h2 := (q_K0, z2.1, z2.2, q_R0)) [(.aload_n 0, 0, 0, 0, 0, 0), (.iconst 2, 0, 0, 0, 2, 0)] (by decide +kernel) rfl rfl ⟨trivial, trivial, trivial⟩ ?_
    obtain ⟨⟨r4, z5⟩, hc23, h⟩ := Option.bind_eq_some_iff.mp h
    dsimp only at h
    refine q_cV1 (idx := 86) (v := .int r4) (h1 := (q_K0, z5.1, z5.2, q_R0)) [.int 2, .ref 1] 89 1 8 [.int 2] [] rfl (by decide +kernel) (by decide +kernel) rfl (Nat.le_of_ble_eq_true rfl) rfl (by decide) (by decide +kernel) (by decide +kernel) (s_X9_refuse hc23) ?_
    cases h
    exact q_iret .int rfl rfl (by decide +kernel)
  · rw [he22] at h
    dsimp only at h
    show q_Ex _ _ 8 [(0, .ref 1), (1, .int l1), (2, .int l2)] (.ref oo3 :: []) (q_K0, z2.1, z2.2, q_R0) _ _
    have hoo3 : q_kk oo3 = some (.inl 1) := kf_X6_at hc21 he22
    refine q_blk2 (pc2 := 10) (ls2 := [(3, .ref oo3), (0, .ref 1), (1, .int l1), (2, .int l2)]) (st2 := [.ref oo3]) (h2 := (q_K0, z2.1, z2.2, q_R0)) [(.astore_n 3, 0, 0, 0, 0, 0), (.aload_n 3, 0, 0, 0, 0, 0)] (by decide +kernel) rfl rfl ⟨trivial, trivial, trivial⟩ ?_
    refine q_non_r (off := 9) (tgt := 19) (by decide +kernel) (by decide) ?_
    refine q_blk2 (pc2 := 26) (ls2 := [(3, .ref oo3), (0, .ref 1), (1, .int l1), (2, .int l2)]) (st2 := [.int (z2.1 4 0)]) (h2 := (q_K0, z2.1, z2.2, q_R0)) [(.aload_n 0, 0, 0, 0, 0, 0), (.getfield 27, 0, 8, 2, 0, 0), (.getfield 151, 0, 2, 0, 0, 0)] (by decide +kernel) rfl rfl ⟨trivial, rfl, rfl, trivial⟩ ?_
    refine q_if_le (off := 9) (tgt := 35) (by decide +kernel) (by decide) (fun c26_1 => ?_) (fun c26_1 => ?_)
    · rw [if_pos c26_1] at h
      refine q_blk2 (pc2 := 37) (ls2 := [(3, .ref oo3), (0, .ref 1), (1, .int l1), (2, .int l2)]) (st2 := [.int 1, .int l2]) (h2 := (q_K0, z2.1, z2.2, q_R0)) [(.iload_n 2, 0, 0, 0, 0, 0), (.iconst 1, 0, 0, 0, 1, 0)] (by decide +kernel) rfl rfl ⟨trivial, trivial, trivial⟩ ?_
      refine q_ic_lt (off := 9) (tgt := 46) (by decide +kernel) (by decide) (fun c37_2 => ?_) (fun c37_2 => ?_)
      · rw [if_pos c37_2] at h
        refine q_pick [1] rfl ?_
        exact t_X9_takes_46 h
      · rw [if_neg c37_2] at h
        refine q_blk2 (pc2 := 43) (ls2 := [(3, .ref oo3), (0, .ref 1), (1, .int l1), (2, .int l2)]) (st2 := [.int 100000, .int l2]) (h2 := (q_K0, z2.1, z2.2, q_R0)) [(.iload_n 2, 0, 0, 0, 0, 0), (.ldc 246, 0, 0, 0, 100000, 0)] (by decide +kernel) rfl rfl ⟨trivial, trivial, trivial⟩ ?_
        refine q_ic_le (off := 9) (tgt := 52) (by decide +kernel) (by decide) (fun c43_3 => ?_) (fun c43_3 => ?_)
        · rw [if_pos c43_3] at h
          refine q_blk2 (pc2 := 57) (ls2 := [(3, .ref oo3), (0, .ref 1), (1, .int l1), (2, .int l2)]) (st2 := [.ref oo3, .ref 126]) (h2 := (q_K0, z2.1, z2.2, q_R0)) [(.aload_n 0, 0, 0, 0, 0, 0), (.getfield 59, 0, 8, 7, 0, 0), (.aload_n 3, 0, 0, 0, 0, 0)] (by decide +kernel) rfl rfl ⟨trivial, rfl, trivial, trivial⟩ ?_
          obtain ⟨⟨_, z10⟩, hc24, h⟩ := Option.bind_eq_some_iff.mp h
          dsimp only at h
          refine q_cV0 (idx := 154) (h1 := (q_K0, z10.1, z10.2, q_R0)) [.ref oo3, .ref 126] 13 126 1 [.ref oo3] [] rfl (by decide +kernel) (by decide +kernel) rfl (Nat.le_of_ble_eq_true rfl) rfl (by decide) (by decide +kernel) (by decide +kernel) (s_X1_copy rfl hoo3 hc24) ?_
          refine q_blk2 (pc2 := 72) (ls2 := [(3, .ref oo3), (0, .ref 1), (1, .int l1), (2, .int l2)]) (st2 := [.ref 127, .ref 126, .ref 4]) (h2 := (q_K0, z10.1, z10.2, q_R0)) [(.aload_n 0, 0, 0, 0, 0, 0), (.getfield 27, 0, 8, 2, 0, 0), (.aload_n 0, 0, 0, 0, 0, 0), (.getfield 59, 0, 8, 7, 0, 0), (.aload_n 0, 0, 0, 0, 0, 0), (.getfield 63, 0, 8, 8, 0, 0)] (by decide +kernel) rfl rfl ⟨trivial, rfl, trivial, rfl, trivial, rfl, trivial⟩ ?_
          obtain ⟨⟨r11, z12⟩, hc25, h⟩ := Option.bind_eq_some_iff.mp h
          dsimp only at h
          refine q_cV1 (idx := 135) (v := .int r11) (h1 := (q_K0, z12.1, z12.2, q_R0)) [.ref 127, .ref 126, .ref 4] 22 4 2 [.ref 126, .ref 127] [] rfl (by decide +kernel) (by decide +kernel) rfl (Nat.le_of_ble_eq_true rfl) rfl (by decide) (by decide +kernel) (by decide +kernel) (s_X2_lead rfl rfl hc25) ?_
          refine q_blk2 (pc2 := 80) (ls2 := [(3, .ref oo3), (0, .ref 1), (1, .int l1), (2, .int l2)]) (st2 := [.ref 122]) (h2 := (q_K0, z12.1, z12.2, q_R0)) [(.pop, 0, 0, 0, 0, 0), (.aload_n 0, 0, 0, 0, 0, 0), (.getfield 45, 0, 8, 5, 0, 0)] (by decide +kernel) rfl rfl ⟨trivial, trivial, rfl, trivial⟩ ?_
          obtain ⟨⟨_, z14⟩, hc26, h⟩ := Option.bind_eq_some_iff.mp h
          dsimp only at h
          refine q_cV0 (idx := 247) (h1 := (q_K0, z14.1, z14.2, q_R0)) [.ref 122] 33 122 4 [] [] rfl (by decide +kernel) (by decide +kernel) rfl (Nat.le_of_ble_eq_true rfl) rfl (by decide) (by decide +kernel) (by decide +kernel) (s_X4_clear hc26) ?_
          refine q_blk2 (pc2 := 86) (ls2 := [(3, .ref oo3), (0, .ref 1), (1, .int l1), (2, .int l2)]) (st2 := [.int l2, .ref 1, .ref 1]) (h2 := (q_K0, z14.1, z14.2, q_R0)) [(.aload_n 0, 0, 0, 0, 0, 0), (.aload_n 0, 0, 0, 0, 0, 0), (.iload_n 2, 0, 0, 0, 0, 0)] (by decide +kernel) rfl rfl ⟨trivial, trivial, trivial, trivial⟩ ?_
          obtain ⟨⟨r15, z16⟩, hc27, h⟩ := Option.bind_eq_some_iff.mp h
          dsimp only at h
          refine q_cV1 (idx := 250) (v := .int r15) (h1 := (q_K0, z16.1, z16.2, q_R0)) [.int l2, .ref 1, .ref 1] 93 1 8 [.int l2] [.ref 1] rfl (by decide +kernel) (by decide +kernel) rfl (Nat.le_of_ble_eq_true rfl) rfl (by decide) (by decide +kernel) (by decide +kernel) (s_X9_countTaken hc27) ?_
          obtain ⟨⟨r17, z18⟩, hc28, h⟩ := Option.bind_eq_some_iff.mp h
          dsimp only at h
          refine q_cV1 (idx := 106) (v := .int r17) (h1 := (q_K0, z18.1, z18.2, q_R0)) [.int r15, .ref 1] 90 1 8 [.int r15] [] rfl (by decide +kernel) (by decide +kernel) rfl (Nat.le_of_ble_eq_true rfl) rfl (by decide) (by decide +kernel) (by decide +kernel) (s_X9_accept hc28) ?_
          cases h
          exact q_iret .int rfl rfl (by decide +kernel)
        · rw [if_neg c43_3] at h
          refine q_pick [1] rfl ?_
          exact t_X9_takes_46 h
    · rw [if_neg c26_1] at h
      refine q_blk2 (pc2 := 31) (ls2 := [(3, .ref oo3), (0, .ref 1), (1, .int l1), (2, .int l2)]) (st2 := [.int 5, .ref 1]) (h2 := (q_K0, z2.1, z2.2, q_R0)) [(.aload_n 0, 0, 0, 0, 0, 0), (.iconst 5, 0, 0, 0, 5, 0)] (by decide +kernel) rfl rfl ⟨trivial, trivial, trivial⟩ ?_
      obtain ⟨⟨r19, z20⟩, hc29, h⟩ := Option.bind_eq_some_iff.mp h
      dsimp only at h
      refine q_cV1 (idx := 86) (v := .int r19) (h1 := (q_K0, z20.1, z20.2, q_R0)) [.int 5, .ref 1] 89 1 8 [.int 5] [] rfl (by decide +kernel) (by decide +kernel) rfl (Nat.le_of_ble_eq_true rfl) rfl (by decide) (by decide +kernel) (by decide +kernel) (s_X9_refuse hc29) ?_
      cases h
      exact q_iret .int rfl rfl (by decide +kernel)
def T_X9_countProper_97 (z : q_Z) (l1 : Int32) (l2 : Int32) (l3 : Int32) (l4 : Int32) (l6 : Int32) (l7 : Int32) : Option ((Int32 × Int32 × Int32 × Int32 × Int32 × Int32 × q_Z) × Nat) :=
  if ¬ l3 = (0 : Int32) then
    some ((l1, l2, l3, l4, ((l6 + l7) + 1) - ((l6 + l7) + 1) / l3 * l3, l7 + 2, z), 0)
  else none
set_option maxRecDepth 100000 in
set_option maxHeartbeats 4000000 in
theorem t_X9_countProper_97 {z : q_Z} {l1 : Int32} {l2 : Int32} {l3 : Int32} {l4 : Int32} {l6 : Int32} {l7 : Int32} {s2 : Int32 × Int32 × Int32 × Int32 × Int32 × Int32 × q_Z} {t : Nat} {r : Option Value} {h2 : q_H} (h : T_X9_countProper_97 z l1 l2 l3 l4 l6 l7 = some (s2, t)) (k0 : t = 0 → q_Ex none 95 47 [(0, .ref 1), (1, .int s2.1), (2, .int s2.2.1), (3, .int s2.2.2.1), (4, .int s2.2.2.2.1), (6, .int s2.2.2.2.2.1), (7, .int s2.2.2.2.2.2.1)] [] (q_K0, s2.2.2.2.2.2.2.1, s2.2.2.2.2.2.2.2, q_R0) r h2) (k1 : t = 1 → q_Ex none 95 114 [(0, .ref 1), (1, .int s2.1), (2, .int s2.2.1), (3, .int s2.2.2.1), (4, .int s2.2.2.2.1), (6, .int s2.2.2.2.2.1), (7, .int s2.2.2.2.2.2.1)] [] (q_K0, s2.2.2.2.2.2.2.1, s2.2.2.2.2.2.2.2, q_R0) r h2) : q_Ex none 95 97 [(0, .ref 1), (1, .int l1), (2, .int l2), (3, .int l3), (4, .int l4), (6, .int l6), (7, .int l7)] [] (q_K0, z.1, z.2, q_R0) r h2 := by
  unfold T_X9_countProper_97 at h
  have b5 : ¬ l3 = (0 : Int32) := by
    by_cases q : ¬ l3 = (0 : Int32)
    · exact q
    · rw [if_neg q] at h; cases h
  rw [if_pos b5] at h
  refine q_blk2 (pc2 := 111) (ls2 := [(7, .int (l7 + 2)), (6, .int (((l6 + l7) + 1) - ((l6 + l7) + 1) / l3 * l3)), (0, .ref 1), (1, .int l1), (2, .int l2), (3, .int l3), (4, .int l4)]) (st2 := []) (h2 := (q_K0, z.1, z.2, q_R0)) [(.iload 6, 0, 0, 0, 0, 0), (.iload 7, 0, 0, 0, 0, 0), (.iadd, 0, 0, 0, 0, 0), (.iconst 1, 0, 0, 0, 1, 0), (.iadd, 0, 0, 0, 0, 0), (.iload_n 3, 0, 0, 0, 0, 0), (.irem, 0, 0, 0, 0, 0), (.istore 6, 0, 0, 0, 0, 0), (.iinc 7 2, 0, 0, 0, 2, 0)] (by decide +kernel) rfl rfl ⟨trivial, trivial, trivial, trivial, trivial, trivial, b5, trivial, trivial, trivial⟩ ?_
  refine q_goto (off := -64) (tgt := 47) (by decide +kernel) (by decide) ?_
  cases h
  refine q_pick [2, 3, 4, 5, 6, 1, 0] rfl ?_
  exact k0 rfl
def B_X9_countProper_47 : Int32 × Int32 × Int32 × Int32 × Int32 × Int32 × q_Z → Option ((Int32 × Int32 × Int32 × Int32 × Int32 × Int32 × q_Z) × Nat) := fun (l1, l2, l3, l4, l6, l7, z) =>
  if (2 * l3) ≤ l7 then
    some ((l1, l2, l3, l4, l6, l7, z), 1)
  else
    if l6 = (0 : Int32) then
      (F_X2_complete 126 z (Int32.toInt64 l1) (Int32.toInt64 l7)).bind fun (r6, z7) =>
        if r6 = (0 : Int32) then
          T_X9_countProper_97 z7 l1 l2 l3 l4 l6 l7
        else
          (F_X0_find 126 z7).bind fun (r8, z9) =>
            if r8 = l2 then
              T_X9_countProper_97 z9 l1 l2 l3 (l4 + 1) l6 l7
            else
              T_X9_countProper_97 z9 l1 l2 l3 l4 l6 l7
    else
      T_X9_countProper_97 z l1 l2 l3 l4 l6 l7
set_option maxRecDepth 100000 in
set_option maxHeartbeats 4000000 in
theorem b_X9_countProper_47 {s s2 : Int32 × Int32 × Int32 × Int32 × Int32 × Int32 × q_Z} {t : Nat} {r : Option Value} {h2 : q_H} (h : B_X9_countProper_47 s = some (s2, t)) (k0 : t = 0 → q_Ex none 95 47 [(0, .ref 1), (1, .int s2.1), (2, .int s2.2.1), (3, .int s2.2.2.1), (4, .int s2.2.2.2.1), (6, .int s2.2.2.2.2.1), (7, .int s2.2.2.2.2.2.1)] [] (q_K0, s2.2.2.2.2.2.2.1, s2.2.2.2.2.2.2.2, q_R0) r h2) (k1 : t = 1 → q_Ex none 95 114 [(0, .ref 1), (1, .int s2.1), (2, .int s2.2.1), (3, .int s2.2.2.1), (4, .int s2.2.2.2.1), (6, .int s2.2.2.2.2.1), (7, .int s2.2.2.2.2.2.1)] [] (q_K0, s2.2.2.2.2.2.2.1, s2.2.2.2.2.2.2.2, q_R0) r h2) : q_Ex none 95 47 [(0, .ref 1), (1, .int s.1), (2, .int s.2.1), (3, .int s.2.2.1), (4, .int s.2.2.2.1), (6, .int s.2.2.2.2.1), (7, .int s.2.2.2.2.2.1)] [] (q_K0, s.2.2.2.2.2.2.1, s.2.2.2.2.2.2.2, q_R0) r h2 := by
  unfold B_X9_countProper_47 at h
  obtain ⟨l1, l2, l3, l4, l6, l7, z⟩ := s
  dsimp only at h
  show q_Ex none 95 47 [(0, .ref 1), (1, .int l1), (2, .int l2), (3, .int l3), (4, .int l4), (6, .int l6), (7, .int l7)] [] (q_K0, z.1, z.2, q_R0) r h2
  refine q_blk2 (pc2 := 52) (ls2 := [(0, .ref 1), (1, .int l1), (2, .int l2), (3, .int l3), (4, .int l4), (6, .int l6), (7, .int l7)]) (st2 := [.int (2 * l3), .int l7]) (h2 := (q_K0, z.1, z.2, q_R0)) [(.iload 7, 0, 0, 0, 0, 0), (.iconst 2, 0, 0, 0, 2, 0), (.iload_n 3, 0, 0, 0, 0, 0), (.imul, 0, 0, 0, 0, 0)] (by decide +kernel) rfl rfl ⟨trivial, trivial, trivial, trivial, trivial⟩ ?_
  refine q_ic_ge (off := 62) (tgt := 114) (by decide +kernel) (by decide) (fun c52_1 => ?_) (fun c52_1 => ?_)
  · rw [if_pos c52_1] at h
    cases h
    refine q_pick [0, 1, 2, 3, 4, 5, 6] rfl ?_
    exact k1 rfl
  · rw [if_neg c52_1] at h
    refine q_blk2 (pc2 := 57) (ls2 := [(0, .ref 1), (1, .int l1), (2, .int l2), (3, .int l3), (4, .int l4), (6, .int l6), (7, .int l7)]) (st2 := [.int l6]) (h2 := (q_K0, z.1, z.2, q_R0)) [(.iload 6, 0, 0, 0, 0, 0)] (by decide +kernel) rfl rfl ⟨trivial, trivial⟩ ?_
    refine q_if_ne (off := 40) (tgt := 97) (by decide +kernel) (by decide) (fun c57_2 => ?_) (fun c57_2 => ?_)
    · rw [if_neg c57_2] at h
      refine q_pick [0, 1, 2, 3, 4, 5, 6] rfl ?_
      exact t_X9_countProper_97 h k0 k1
    · rw [if_pos c57_2] at h
      refine q_blk2 (pc2 := 73) (ls2 := [(0, .ref 1), (1, .int l1), (2, .int l2), (3, .int l3), (4, .int l4), (6, .int l6), (7, .int l7)]) (st2 := [.ref 126, .long (Int32.toInt64 l7), .long (Int32.toInt64 l1), .ref 4]) (h2 := (q_K0, z.1, z.2, q_R0)) [(.aload_n 0, 0, 0, 0, 0, 0), (.getfield 27, 0, 8, 2, 0, 0), (.iload_n 1, 0, 0, 0, 0, 0), (.i2l, 0, 0, 0, 0, 0), (.iload 7, 0, 0, 0, 0, 0), (.i2l, 0, 0, 0, 0, 0), (.aload_n 0, 0, 0, 0, 0, 0), (.getfield 59, 0, 8, 7, 0, 0)] (by decide +kernel) rfl rfl ⟨trivial, rfl, trivial, trivial, trivial, trivial, trivial, rfl, trivial⟩ ?_
      obtain ⟨⟨r6, z7⟩, hc10, h⟩ := Option.bind_eq_some_iff.mp h
      dsimp only at h
      refine q_cV1 (idx := 90) (v := .int r6) (h1 := (q_K0, z7.1, z7.2, q_R0)) [.ref 126, .long (Int32.toInt64 l7), .long (Int32.toInt64 l1), .ref 4] 19 4 2 [.long (Int32.toInt64 l1), .long (Int32.toInt64 l7), .ref 126] [] rfl (by decide +kernel) (by decide +kernel) rfl (Nat.le_of_ble_eq_true rfl) rfl (by decide) (by decide +kernel) (by decide +kernel) (s_X2_complete rfl hc10) ?_
      refine q_if_eq (off := 21) (tgt := 97) (by decide +kernel) (by decide) (fun c76_3 => ?_) (fun c76_3 => ?_)
      · rw [if_pos c76_3] at h
        refine q_pick [0, 1, 2, 3, 4, 5, 6] rfl ?_
        exact t_X9_countProper_97 h k0 k1
      · rw [if_neg c76_3] at h
        refine q_blk2 (pc2 := 87) (ls2 := [(0, .ref 1), (1, .int l1), (2, .int l2), (3, .int l3), (4, .int l4), (6, .int l6), (7, .int l7)]) (st2 := [.ref 126, .ref 3]) (h2 := (q_K0, z7.1, z7.2, q_R0)) [(.aload_n 0, 0, 0, 0, 0, 0), (.getfield 20, 0, 8, 1, 0, 0), (.aload_n 0, 0, 0, 0, 0, 0), (.getfield 59, 0, 8, 7, 0, 0)] (by decide +kernel) rfl rfl ⟨trivial, rfl, trivial, rfl, trivial⟩ ?_
        obtain ⟨⟨r8, z9⟩, hc11, h⟩ := Option.bind_eq_some_iff.mp h
        dsimp only at h
        refine q_cV1 (idx := 164) (v := .int r8) (h1 := (q_K0, z9.1, z9.2, q_R0)) [.ref 126, .ref 3] 8 3 0 [.ref 126] [] rfl (by decide +kernel) (by decide +kernel) rfl (Nat.le_of_ble_eq_true rfl) rfl (by decide) (by decide +kernel) (by decide +kernel) (s_X0_find rfl hc11) ?_
        refine q_blk2 (pc2 := 91) (ls2 := [(0, .ref 1), (1, .int l1), (2, .int l2), (3, .int l3), (4, .int l4), (6, .int l6), (7, .int l7)]) (st2 := [.int l2, .int r8]) (h2 := (q_K0, z9.1, z9.2, q_R0)) [(.iload_n 2, 0, 0, 0, 0, 0)] (by decide +kernel) rfl rfl ⟨trivial, trivial⟩ ?_
        refine q_ic_ne (off := 6) (tgt := 97) (by decide +kernel) (by decide) (fun c91_4 => ?_) (fun c91_4 => ?_)
        · rw [if_neg c91_4] at h
          refine q_pick [0, 1, 2, 3, 4, 5, 6] rfl ?_
          exact t_X9_countProper_97 h k0 k1
        · rw [if_pos c91_4] at h
          refine q_blk2 (pc2 := 97) (ls2 := [(4, .int (l4 + 1)), (0, .ref 1), (1, .int l1), (2, .int l2), (3, .int l3), (6, .int l6), (7, .int l7)]) (st2 := []) (h2 := (q_K0, z9.1, z9.2, q_R0)) [(.iinc 4 1, 0, 0, 0, 1, 0)] (by decide +kernel) rfl rfl ⟨trivial, trivial⟩ ?_
          refine q_pick [1, 2, 3, 4, 0, 5, 6] rfl ?_
          exact t_X9_countProper_97 h k0 k1
/-- RootForms.countProper(II)I -/
def F_X9_countProper (z : q_Z) (l1 : Int32) (l2 : Int32) : Option (Int32 × q_Z) :=
  (F_J9_abs_0f7a4 z l1).bind fun (r1, z2) =>
    if r1 = (0 : Int32) then
      some (0, z2)
    else
      (F_J9_floorMod_7cf53 z2 ((((z2.1 4 0) &&& 1) - (z2.1 4 0)) / 4) r1).bind fun (r3, z4) =>
        (q_lp (B_X9_countProper_47) q_fu (l1, l2, r1, 0, r3, (z2.1 4 0) &&& 1, z4)).bind fun ((w13, w14, w15, w16, w17, w18, z12), tg) =>
          if tg = 0 then
            some (w16, z12)
          else none
set_option maxRecDepth 100000 in
set_option maxHeartbeats 4000000 in
theorem s_X9_countProper {z zR : q_Z} {l1 : Int32} {l2 : Int32} {rv : Int32} (h : F_X9_countProper z l1 l2 = some (rv, zR)) : q_Ca 95 [.ref 1, .int l1, .int l2] (q_K0, z.1, z.2, q_R0) (some (.int rv)) (q_K0, zR.1, zR.2, q_R0) := by
  refine q_Ca_of (by decide) (Nat.le_of_ble_eq_true rfl) ?_
  show q_Ex none 95 0 [(0, .ref 1), (1, .int l1), (2, .int l2)] [] (q_K0, z.1, z.2, q_R0) _ _
  unfold F_X9_countProper at h
  refine q_blk2 (pc2 := 1) (ls2 := [(0, .ref 1), (1, .int l1), (2, .int l2)]) (st2 := [.int l1]) (h2 := (q_K0, z.1, z.2, q_R0)) [(.iload_n 1, 0, 0, 0, 0, 0)] (by decide +kernel) rfl rfl ⟨trivial, trivial⟩ ?_
  obtain ⟨⟨r1, z2⟩, hc19, h⟩ := Option.bind_eq_some_iff.mp h
  dsimp only at h
  refine q_cS1 (idx := 305) (v := .int r1) (h1 := (q_K0, z2.1, z2.2, q_R0)) [.int l1] 159 [.int l1] [] rfl (by decide +kernel) (by decide +kernel) rfl (Nat.le_of_ble_eq_true rfl) (by decide +kernel) (s_J9_abs_0f7a4 hc19) ?_
  refine q_blk2 (pc2 := 6) (ls2 := [(3, .int r1), (0, .ref 1), (1, .int l1), (2, .int l2)]) (st2 := [.int r1]) (h2 := (q_K0, z2.1, z2.2, q_R0)) [(.istore_n 3, 0, 0, 0, 0, 0), (.iload_n 3, 0, 0, 0, 0, 0)] (by decide +kernel) rfl rfl ⟨trivial, trivial, trivial⟩ ?_
  refine q_if_ne (off := 5) (tgt := 11) (by decide +kernel) (by decide) (fun c6_1 => ?_) (fun c6_1 => ?_)
  · rw [if_neg c6_1] at h
    refine q_blk2 (pc2 := 38) (ls2 := [(5, .int ((z2.1 4 0) &&& 1)), (4, .int 0), (3, .int r1), (0, .ref 1), (1, .int l1), (2, .int l2)]) (st2 := [.int r1, .int ((((z2.1 4 0) &&& 1) - (z2.1 4 0)) / 4)]) (h2 := (q_K0, z2.1, z2.2, q_R0)) [(.iconst 0, 0, 0, 0, 0, 0), (.istore 4, 0, 0, 0, 0, 0), (.aload_n 0, 0, 0, 0, 0, 0), (.getfield 27, 0, 8, 2, 0, 0), (.getfield 151, 0, 2, 0, 0, 0), (.iconst 1, 0, 0, 0, 1, 0), (.iand, 0, 0, 0, 0, 0), (.istore 5, 0, 0, 0, 0, 0), (.iload 5, 0, 0, 0, 0, 0), (.aload_n 0, 0, 0, 0, 0, 0), (.getfield 27, 0, 8, 2, 0, 0), (.getfield 151, 0, 2, 0, 0, 0), (.isub, 0, 0, 0, 0, 0), (.iconst 4, 0, 0, 0, 4, 0), (.idiv, 0, 0, 0, 0, 0), (.iload_n 3, 0, 0, 0, 0, 0)] (by decide +kernel) rfl rfl ⟨trivial, trivial, trivial, rfl, rfl, trivial, trivial, trivial, trivial, trivial, rfl, rfl, trivial, trivial, (by decide), trivial, trivial⟩ ?_
    obtain ⟨⟨r3, z4⟩, hc20, h⟩ := Option.bind_eq_some_iff.mp h
    dsimp only at h
    refine q_cS1 (idx := 310) (v := .int r3) (h1 := (q_K0, z4.1, z4.2, q_R0)) [.int r1, .int ((((z2.1 4 0) &&& 1) - (z2.1 4 0)) / 4)] 157 [.int ((((z2.1 4 0) &&& 1) - (z2.1 4 0)) / 4), .int r1] [] rfl (by decide +kernel) (by decide +kernel) rfl (Nat.le_of_ble_eq_true rfl) (by decide +kernel) (s_J9_floorMod_7cf53 hc20) ?_
    refine q_blk2 (pc2 := 47) (ls2 := [(7, .int ((z2.1 4 0) &&& 1)), (6, .int r3), (5, .int ((z2.1 4 0) &&& 1)), (4, .int 0), (3, .int r1), (0, .ref 1), (1, .int l1), (2, .int l2)]) (st2 := []) (h2 := (q_K0, z4.1, z4.2, q_R0)) [(.istore 6, 0, 0, 0, 0, 0), (.iload 5, 0, 0, 0, 0, 0), (.istore 7, 0, 0, 0, 0, 0)] (by decide +kernel) rfl rfl ⟨trivial, trivial, trivial, trivial⟩ ?_
    obtain ⟨⟨⟨w13, w14, w15, w16, w17, w18, z12⟩, tg22⟩, hl21, h⟩ := Option.bind_eq_some_iff.mp h
    dsimp only at h
    refine q_pick [5, 6, 7, 4, 3, 1, 0] rfl ?_
    refine q_lp_ok (P := fun s => q_Ex _ 95 47 [(0, .ref 1), (1, .int s.1), (2, .int s.2.1), (3, .int s.2.2.1), (4, .int s.2.2.2.1), (6, .int s.2.2.2.2.1), (7, .int s.2.2.2.2.2.1)] [] (q_K0, s.2.2.2.2.2.2.1, s.2.2.2.2.2.2.2, q_R0) _ _) (X := fun u s => (u = 0 → q_Ex _ 95 114 [(0, .ref 1), (1, .int s.1), (2, .int s.2.1), (3, .int s.2.2.1), (4, .int s.2.2.2.1), (6, .int s.2.2.2.2.1), (7, .int s.2.2.2.2.2.1)] [] (q_K0, s.2.2.2.2.2.2.1, s.2.2.2.2.2.2.2, q_R0) _ _)) (fun s s2 t hh k0 kx => b_X9_countProper_47 hh k0 (fun e => (kx 0 e) rfl)) hl21 ?_
    · intro e_tg22
      subst e_tg22
      rw [if_pos rfl] at h
      show q_Ex _ 95 114 [(0, .ref 1), (1, .int w13), (2, .int w14), (3, .int w15), (4, .int w16), (6, .int w17), (7, .int w18)] [] (q_K0, z12.1, z12.2, q_R0) _ _
      refine q_blk2 (pc2 := 116) (ls2 := [(0, .ref 1), (1, .int w13), (2, .int w14), (3, .int w15), (4, .int w16), (6, .int w17), (7, .int w18)]) (st2 := [.int w16]) (h2 := (q_K0, z12.1, z12.2, q_R0)) [(.iload 4, 0, 0, 0, 0, 0)] (by decide +kernel) rfl rfl ⟨trivial, trivial⟩ ?_
      cases h
      exact q_iret .int rfl rfl (by decide +kernel)
  · rw [if_pos c6_1] at h
    refine q_blk2 (pc2 := 10) (ls2 := [(3, .int r1), (0, .ref 1), (1, .int l1), (2, .int l2)]) (st2 := [.int 0]) (h2 := (q_K0, z2.1, z2.2, q_R0)) [(.iconst 0, 0, 0, 0, 0, 0)] (by decide +kernel) rfl rfl ⟨trivial, trivial⟩ ?_
    cases h
    exact q_iret .int rfl rfl (by decide +kernel)
def T_X9_proper_51 (z : q_Z) : Option (Int32 × q_Z) :=
  (F_X9_refuse z 1).bind fun (r6, z7) =>
    some (r6, z7)
set_option maxRecDepth 100000 in
set_option maxHeartbeats 4000000 in
theorem t_X9_proper_51 {z zR : q_Z} {rv : Int32} (h : T_X9_proper_51 z = some (rv, zR)) : q_Ex none 83 51 [(0, .ref 1)] [] (q_K0, z.1, z.2, q_R0) (some (.int rv)) (q_K0, zR.1, zR.2, q_R0) := by
  unfold T_X9_proper_51 at h
  refine q_blk2 (pc2 := 53) (ls2 := [(0, .ref 1)]) (st2 := [.int 1, .ref 1]) (h2 := (q_K0, z.1, z.2, q_R0)) [(.aload_n 0, 0, 0, 0, 0, 0), (.iconst 1, 0, 0, 0, 1, 0)] (by decide +kernel) rfl rfl ⟨trivial, trivial, trivial⟩ ?_
  obtain ⟨⟨r6, z7⟩, hc8, h⟩ := Option.bind_eq_some_iff.mp h
  dsimp only at h
  refine q_cV1 (idx := 86) (v := .int r6) (h1 := (q_K0, z7.1, z7.2, q_R0)) [.int 1, .ref 1] 89 1 8 [.int 1] [] rfl (by decide +kernel) (by decide +kernel) rfl (Nat.le_of_ble_eq_true rfl) rfl (by decide) (by decide +kernel) (by decide +kernel) (s_X9_refuse hc8) ?_
  cases h
  exact q_iret .int rfl rfl (by decide +kernel)
def T_X9_proper_57 (o3 : Nat) (z : q_Z) (l2 : Int32) : Option (Int32 × q_Z) :=
  (F_X0_prepare z).bind fun (_, z10) =>
    (F_X0_find o3 z10).bind fun (r11, z12) =>
      (F_X9_countProper z12 l2 r11).bind fun (r13, z14) =>
        (F_X9_accept z14 r13).bind fun (r15, z16) =>
          some (r15, z16)
set_option maxRecDepth 100000 in
set_option maxHeartbeats 4000000 in
theorem t_X9_proper_57 {o3 : Nat} (ho3 : q_kk o3 = some (.inl 1)) {z zR : q_Z} {l2 : Int32} {rv : Int32} (h : T_X9_proper_57 o3 z l2 = some (rv, zR)) : q_Ex none 83 57 [(0, .ref 1), (2, .int l2), (3, .ref o3)] [] (q_K0, z.1, z.2, q_R0) (some (.int rv)) (q_K0, zR.1, zR.2, q_R0) := by
  unfold T_X9_proper_57 at h
  refine q_blk2 (pc2 := 61) (ls2 := [(0, .ref 1), (2, .int l2), (3, .ref o3)]) (st2 := [.ref 3]) (h2 := (q_K0, z.1, z.2, q_R0)) [(.aload_n 0, 0, 0, 0, 0, 0), (.getfield 20, 0, 8, 1, 0, 0)] (by decide +kernel) rfl rfl ⟨trivial, rfl, trivial⟩ ?_
  obtain ⟨⟨_, z10⟩, hc17, h⟩ := Option.bind_eq_some_iff.mp h
  dsimp only at h
  refine q_cV0 (idx := 161) (h1 := (q_K0, z10.1, z10.2, q_R0)) [.ref 3] 2 3 0 [] [] rfl (by decide +kernel) (by decide +kernel) rfl (Nat.le_of_ble_eq_true rfl) rfl (by decide) (by decide +kernel) (by decide +kernel) (s_X0_prepare hc17) ?_
  refine q_blk2 (pc2 := 72) (ls2 := [(0, .ref 1), (2, .int l2), (3, .ref o3)]) (st2 := [.ref o3, .ref 3, .int l2, .ref 1, .ref 1]) (h2 := (q_K0, z10.1, z10.2, q_R0)) [(.aload_n 0, 0, 0, 0, 0, 0), (.aload_n 0, 0, 0, 0, 0, 0), (.iload_n 2, 0, 0, 0, 0, 0), (.aload_n 0, 0, 0, 0, 0, 0), (.getfield 20, 0, 8, 1, 0, 0), (.aload_n 3, 0, 0, 0, 0, 0)] (by decide +kernel) rfl rfl ⟨trivial, trivial, trivial, trivial, rfl, trivial, trivial⟩ ?_
  obtain ⟨⟨r11, z12⟩, hc18, h⟩ := Option.bind_eq_some_iff.mp h
  dsimp only at h
  refine q_cV1 (idx := 164) (v := .int r11) (h1 := (q_K0, z12.1, z12.2, q_R0)) [.ref o3, .ref 3, .int l2, .ref 1, .ref 1] 8 3 0 [.ref o3] [.int l2, .ref 1, .ref 1] rfl (by decide +kernel) (by decide +kernel) rfl (Nat.le_of_ble_eq_true rfl) rfl (by decide) (by decide +kernel) (by decide +kernel) (s_X0_find ho3 hc18) ?_
  obtain ⟨⟨r13, z14⟩, hc19, h⟩ := Option.bind_eq_some_iff.mp h
  dsimp only at h
  refine q_cV1 (idx := 253) (v := .int r13) (h1 := (q_K0, z14.1, z14.2, q_R0)) [.int r11, .int l2, .ref 1, .ref 1] 95 1 8 [.int l2, .int r11] [.ref 1] rfl (by decide +kernel) (by decide +kernel) rfl (Nat.le_of_ble_eq_true rfl) rfl (by decide) (by decide +kernel) (by decide +kernel) (s_X9_countProper hc19) ?_
  obtain ⟨⟨r15, z16⟩, hc20, h⟩ := Option.bind_eq_some_iff.mp h
  dsimp only at h
  refine q_cV1 (idx := 106) (v := .int r15) (h1 := (q_K0, z16.1, z16.2, q_R0)) [.int r13, .ref 1] 90 1 8 [.int r13] [] rfl (by decide +kernel) (by decide +kernel) rfl (Nat.le_of_ble_eq_true rfl) rfl (by decide) (by decide +kernel) (by decide +kernel) (s_X9_accept hc20) ?_
  cases h
  exact q_iret .int rfl rfl (by decide +kernel)
/-- RootForms.proper(II)I -/
def F_X9_proper (z : q_Z) (l1 : Int32) (l2 : Int32) : Option (Int32 × q_Z) :=
  (F_X6_at z l1).bind fun (r1, z2) =>
    match r1 with
    | none =>
      (F_X9_refuse z2 2).bind fun (r4, z5) =>
        some (r4, z5)
    | some oo3 =>
      if l2 < (-20000 : Int32) then
        T_X9_proper_51 z2
      else
        if (20000 : Int32) < l2 then
          T_X9_proper_51 z2
        else
          if l2 = (0 : Int32) then
            T_X9_proper_51 z2
          else
            if (0 : Int32) ≤ l2 then
              T_X9_proper_57 oo3 z2 l2
            else
              if (0 : Int32) ≤ (z2.1 4 0) then
                T_X9_proper_57 oo3 z2 l2
              else
                T_X9_proper_51 z2
set_option maxRecDepth 100000 in
set_option maxHeartbeats 4000000 in
theorem s_X9_proper {z zR : q_Z} {l1 : Int32} {l2 : Int32} {rv : Int32} (h : F_X9_proper z l1 l2 = some (rv, zR)) : q_Ca 83 [.ref 1, .int l1, .int l2] (q_K0, z.1, z.2, q_R0) (some (.int rv)) (q_K0, zR.1, zR.2, q_R0) := by
  refine q_Ca_of (by decide) (Nat.le_of_ble_eq_true rfl) ?_
  show q_Ex none 83 0 [(0, .ref 1), (1, .int l1), (2, .int l2)] [] (q_K0, z.1, z.2, q_R0) _ _
  unfold F_X9_proper at h
  refine q_blk2 (pc2 := 5) (ls2 := [(0, .ref 1), (1, .int l1), (2, .int l2)]) (st2 := [.int l1, .ref 17]) (h2 := (q_K0, z.1, z.2, q_R0)) [(.aload_n 0, 0, 0, 0, 0, 0), (.getfield 31, 0, 8, 3, 0, 0), (.iload_n 1, 0, 0, 0, 0, 0)] (by decide +kernel) rfl rfl ⟨trivial, rfl, trivial, trivial⟩ ?_
  obtain ⟨⟨r1, z2⟩, hc21, h⟩ := Option.bind_eq_some_iff.mp h
  dsimp only at h
  refine q_cV1 (idx := 109) (v := va_rf r1) (h1 := (q_K0, z2.1, z2.2, q_R0)) [.int l1, .ref 17] 44 17 6 [.int l1] [] rfl (by decide +kernel) (by decide +kernel) rfl (Nat.le_of_ble_eq_true rfl) rfl (by decide) (by decide +kernel) (by decide +kernel) (s_X6_at hc21) ?_
  rcases he22 : r1 with _ | oo3
  · rw [he22] at h
    dsimp only at h
    show q_Ex _ _ 8 [(0, .ref 1), (1, .int l1), (2, .int l2)] (.null :: []) (q_K0, z2.1, z2.2, q_R0) _ _
    refine q_blk2 (pc2 := 10) (ls2 := [(3, .null), (0, .ref 1), (1, .int l1), (2, .int l2)]) (st2 := [.null]) (h2 := (q_K0, z2.1, z2.2, q_R0)) [(.astore_n 3, 0, 0, 0, 0, 0), (.aload_n 3, 0, 0, 0, 0, 0)] (by decide +kernel) rfl rfl ⟨trivial, trivial, trivial⟩ ?_
    refine q_non_n (off := 9) (by decide +kernel) ?_
    refine q_blk2 (pc2 := 15) (ls2 := [(3, .null), (0, .ref 1), (1, .int l1), (2, .int l2)]) (st2 := [.int 2, .ref 1]) (h2 := (q_K0, z2.1, z2.2, q_R0)) [(.aload_n 0, 0, 0, 0, 0, 0), (.iconst 2, 0, 0, 0, 2, 0)] (by decide +kernel) rfl rfl ⟨trivial, trivial, trivial⟩ ?_
    obtain ⟨⟨r4, z5⟩, hc23, h⟩ := Option.bind_eq_some_iff.mp h
    dsimp only at h
    refine q_cV1 (idx := 86) (v := .int r4) (h1 := (q_K0, z5.1, z5.2, q_R0)) [.int 2, .ref 1] 89 1 8 [.int 2] [] rfl (by decide +kernel) (by decide +kernel) rfl (Nat.le_of_ble_eq_true rfl) rfl (by decide) (by decide +kernel) (by decide +kernel) (s_X9_refuse hc23) ?_
    cases h
    exact q_iret .int rfl rfl (by decide +kernel)
  · rw [he22] at h
    dsimp only at h
    show q_Ex _ _ 8 [(0, .ref 1), (1, .int l1), (2, .int l2)] (.ref oo3 :: []) (q_K0, z2.1, z2.2, q_R0) _ _
    have hoo3 : q_kk oo3 = some (.inl 1) := kf_X6_at hc21 he22
    refine q_blk2 (pc2 := 10) (ls2 := [(3, .ref oo3), (0, .ref 1), (1, .int l1), (2, .int l2)]) (st2 := [.ref oo3]) (h2 := (q_K0, z2.1, z2.2, q_R0)) [(.astore_n 3, 0, 0, 0, 0, 0), (.aload_n 3, 0, 0, 0, 0, 0)] (by decide +kernel) rfl rfl ⟨trivial, trivial, trivial⟩ ?_
    refine q_non_r (off := 9) (tgt := 19) (by decide +kernel) (by decide) ?_
    refine q_blk2 (pc2 := 23) (ls2 := [(3, .ref oo3), (0, .ref 1), (1, .int l1), (2, .int l2)]) (st2 := [.int (-20000), .int l2]) (h2 := (q_K0, z2.1, z2.2, q_R0)) [(.iload_n 2, 0, 0, 0, 0, 0), (.sipush (-20000), 0, 0, 0, (-20000), 0)] (by decide +kernel) rfl rfl ⟨trivial, trivial, trivial⟩ ?_
    refine q_ic_lt (off := 28) (tgt := 51) (by decide +kernel) (by decide) (fun c23_1 => ?_) (fun c23_1 => ?_)
    · rw [if_pos c23_1] at h
      refine q_pick [1] rfl ?_
      exact t_X9_proper_51 h
    · rw [if_neg c23_1] at h
      refine q_blk2 (pc2 := 30) (ls2 := [(3, .ref oo3), (0, .ref 1), (1, .int l1), (2, .int l2)]) (st2 := [.int 20000, .int l2]) (h2 := (q_K0, z2.1, z2.2, q_R0)) [(.iload_n 2, 0, 0, 0, 0, 0), (.sipush 20000, 0, 0, 0, 20000, 0)] (by decide +kernel) rfl rfl ⟨trivial, trivial, trivial⟩ ?_
      refine q_ic_gt (off := 21) (tgt := 51) (by decide +kernel) (by decide) (fun c30_2 => ?_) (fun c30_2 => ?_)
      · rw [if_pos c30_2] at h
        refine q_pick [1] rfl ?_
        exact t_X9_proper_51 h
      · rw [if_neg c30_2] at h
        refine q_blk2 (pc2 := 34) (ls2 := [(3, .ref oo3), (0, .ref 1), (1, .int l1), (2, .int l2)]) (st2 := [.int l2]) (h2 := (q_K0, z2.1, z2.2, q_R0)) [(.iload_n 2, 0, 0, 0, 0, 0)] (by decide +kernel) rfl rfl ⟨trivial, trivial⟩ ?_
        refine q_if_eq (off := 17) (tgt := 51) (by decide +kernel) (by decide) (fun c34_3 => ?_) (fun c34_3 => ?_)
        · rw [if_pos c34_3] at h
          refine q_pick [1] rfl ?_
          exact t_X9_proper_51 h
        · rw [if_neg c34_3] at h
          refine q_blk2 (pc2 := 38) (ls2 := [(3, .ref oo3), (0, .ref 1), (1, .int l1), (2, .int l2)]) (st2 := [.int l2]) (h2 := (q_K0, z2.1, z2.2, q_R0)) [(.iload_n 2, 0, 0, 0, 0, 0)] (by decide +kernel) rfl rfl ⟨trivial, trivial⟩ ?_
          refine q_if_ge (off := 19) (tgt := 57) (by decide +kernel) (by decide) (fun c38_4 => ?_) (fun c38_4 => ?_)
          · rw [if_pos c38_4] at h
            refine q_pick [1, 3, 0] rfl ?_
            exact t_X9_proper_57 hoo3 h
          · rw [if_neg c38_4] at h
            refine q_blk2 (pc2 := 48) (ls2 := [(3, .ref oo3), (0, .ref 1), (1, .int l1), (2, .int l2)]) (st2 := [.int (z2.1 4 0)]) (h2 := (q_K0, z2.1, z2.2, q_R0)) [(.aload_n 0, 0, 0, 0, 0, 0), (.getfield 27, 0, 8, 2, 0, 0), (.getfield 151, 0, 2, 0, 0, 0)] (by decide +kernel) rfl rfl ⟨trivial, rfl, rfl, trivial⟩ ?_
            refine q_if_ge (off := 9) (tgt := 57) (by decide +kernel) (by decide) (fun c48_5 => ?_) (fun c48_5 => ?_)
            · rw [if_pos c48_5] at h
              refine q_pick [1, 3, 0] rfl ?_
              exact t_X9_proper_57 hoo3 h
            · rw [if_neg c48_5] at h
              refine q_pick [1] rfl ?_
              exact t_X9_proper_51 h
def B_X9_countSquares_25 : Int32 × Int32 × Int32 × Int32 × q_Z → Option ((Int32 × Int32 × Int32 × Int32 × q_Z) × Nat) := fun (l2, l3, l4, l5, z) =>
  if l4 ≤ (0 : Int32) then
    some ((l2, l3, l4, l5, z), 1)
  else
    if l3 ≤ l5 then
      some ((l2, l3, l4, l5, z), 1)
    else
      some ((l2, l3 + (-1), l4 - ((2 * l3) - 1), l5, z), 0)
set_option maxRecDepth 100000 in
set_option maxHeartbeats 4000000 in
theorem b_X9_countSquares_25 {s s2 : Int32 × Int32 × Int32 × Int32 × q_Z} {t : Nat} {r : Option Value} {h2 : q_H} (h : B_X9_countSquares_25 s = some (s2, t)) (k0 : t = 0 → q_Ex none 96 25 [(0, .ref 1), (2, .int s2.1), (3, .int s2.2.1), (4, .int s2.2.2.1), (5, .int s2.2.2.2.1)] [] (q_K0, s2.2.2.2.2.1, s2.2.2.2.2.2, q_R0) r h2) (k1 : t = 1 → q_Ex none 96 52 [(0, .ref 1), (2, .int s2.1), (3, .int s2.2.1), (4, .int s2.2.2.1), (5, .int s2.2.2.2.1)] [] (q_K0, s2.2.2.2.2.1, s2.2.2.2.2.2, q_R0) r h2) : q_Ex none 96 25 [(0, .ref 1), (2, .int s.1), (3, .int s.2.1), (4, .int s.2.2.1), (5, .int s.2.2.2.1)] [] (q_K0, s.2.2.2.2.1, s.2.2.2.2.2, q_R0) r h2 := by
  unfold B_X9_countSquares_25 at h
  obtain ⟨l2, l3, l4, l5, z⟩ := s
  dsimp only at h
  show q_Ex none 96 25 [(0, .ref 1), (2, .int l2), (3, .int l3), (4, .int l4), (5, .int l5)] [] (q_K0, z.1, z.2, q_R0) r h2
  refine q_blk2 (pc2 := 27) (ls2 := [(0, .ref 1), (2, .int l2), (3, .int l3), (4, .int l4), (5, .int l5)]) (st2 := [.int l4]) (h2 := (q_K0, z.1, z.2, q_R0)) [(.iload 4, 0, 0, 0, 0, 0)] (by decide +kernel) rfl rfl ⟨trivial, trivial⟩ ?_
  refine q_if_le (off := 25) (tgt := 52) (by decide +kernel) (by decide) (fun c27_1 => ?_) (fun c27_1 => ?_)
  · rw [if_pos c27_1] at h
    cases h
    refine q_pick [0, 1, 2, 3, 4] rfl ?_
    exact k1 rfl
  · rw [if_neg c27_1] at h
    refine q_blk2 (pc2 := 33) (ls2 := [(0, .ref 1), (2, .int l2), (3, .int l3), (4, .int l4), (5, .int l5)]) (st2 := [.int l5, .int l3]) (h2 := (q_K0, z.1, z.2, q_R0)) [(.iload_n 3, 0, 0, 0, 0, 0), (.iload 5, 0, 0, 0, 0, 0)] (by decide +kernel) rfl rfl ⟨trivial, trivial, trivial⟩ ?_
    refine q_ic_le (off := 19) (tgt := 52) (by decide +kernel) (by decide) (fun c33_2 => ?_) (fun c33_2 => ?_)
    · rw [if_pos c33_2] at h
      cases h
      refine q_pick [0, 1, 2, 3, 4] rfl ?_
      exact k1 rfl
    · rw [if_neg c33_2] at h
      refine q_blk2 (pc2 := 49) (ls2 := [(3, .int (l3 + (-1))), (4, .int (l4 - ((2 * l3) - 1))), (0, .ref 1), (2, .int l2), (5, .int l5)]) (st2 := []) (h2 := (q_K0, z.1, z.2, q_R0)) [(.iload 4, 0, 0, 0, 0, 0), (.iconst 2, 0, 0, 0, 2, 0), (.iload_n 3, 0, 0, 0, 0, 0), (.imul, 0, 0, 0, 0, 0), (.iconst 1, 0, 0, 0, 1, 0), (.isub, 0, 0, 0, 0, 0), (.isub, 0, 0, 0, 0, 0), (.istore 4, 0, 0, 0, 0, 0), (.iinc 3 (-1), 0, 0, 0, (-1), 0)] (by decide +kernel) rfl rfl ⟨trivial, trivial, trivial, trivial, trivial, trivial, trivial, trivial, trivial, trivial⟩ ?_
      refine q_goto (off := -24) (tgt := 25) (by decide +kernel) (by decide) ?_
      cases h
      refine q_pick [2, 3, 0, 1, 4] rfl ?_
      exact k0 rfl
def T_X9_countSquares_70 (z : q_Z) (l2 : Int32) (l3 : Int32) (l4 : Int32) (l5 : Int32) : Option ((Int32 × Int32 × Int32 × Int32 × q_Z) × Nat) :=
  some ((l2, l3, l4 + ((2 * l5) + 1), l5 + 1, z), 0)
set_option maxRecDepth 100000 in
set_option maxHeartbeats 4000000 in
theorem t_X9_countSquares_70 {z : q_Z} {l2 : Int32} {l3 : Int32} {l4 : Int32} {l5 : Int32} {s2 : Int32 × Int32 × Int32 × Int32 × q_Z} {t : Nat} {r : Option Value} {h2 : q_H} (h : T_X9_countSquares_70 z l2 l3 l4 l5 = some (s2, t)) (k0 : t = 0 → q_Ex none 96 19 [(0, .ref 1), (2, .int s2.1), (3, .int s2.2.1), (4, .int s2.2.2.1), (5, .int s2.2.2.2.1)] [] (q_K0, s2.2.2.2.2.1, s2.2.2.2.2.2, q_R0) r h2) (k1 : t = 1 → q_Ex none 96 87 [(0, .ref 1), (2, .int s2.1), (3, .int s2.2.1), (4, .int s2.2.2.1), (5, .int s2.2.2.2.1)] [] (q_K0, s2.2.2.2.2.1, s2.2.2.2.2.2, q_R0) r h2) : q_Ex none 96 70 [(0, .ref 1), (2, .int l2), (3, .int l3), (4, .int l4), (5, .int l5)] [] (q_K0, z.1, z.2, q_R0) r h2 := by
  unfold T_X9_countSquares_70 at h
  refine q_blk2 (pc2 := 84) (ls2 := [(5, .int (l5 + 1)), (4, .int (l4 + ((2 * l5) + 1))), (0, .ref 1), (2, .int l2), (3, .int l3)]) (st2 := []) (h2 := (q_K0, z.1, z.2, q_R0)) [(.iload 4, 0, 0, 0, 0, 0), (.iconst 2, 0, 0, 0, 2, 0), (.iload 5, 0, 0, 0, 0, 0), (.imul, 0, 0, 0, 0, 0), (.iconst 1, 0, 0, 0, 1, 0), (.iadd, 0, 0, 0, 0, 0), (.iadd, 0, 0, 0, 0, 0), (.istore 4, 0, 0, 0, 0, 0), (.iinc 5 1, 0, 0, 0, 1, 0)] (by decide +kernel) rfl rfl ⟨trivial, trivial, trivial, trivial, trivial, trivial, trivial, trivial, trivial, trivial⟩ ?_
  refine q_goto (off := -65) (tgt := 19) (by decide +kernel) (by decide) ?_
  cases h
  refine q_pick [2, 3, 4, 1, 0] rfl ?_
  exact k0 rfl
def T_X9_countSquares_52 (z : q_Z) (l2 : Int32) (l3 : Int32) (l4 : Int32) (l5 : Int32) : Option ((Int32 × Int32 × Int32 × Int32 × q_Z) × Nat) :=
  if l4 = (0 : Int32) then
    (F_X4_insert z l5 l3).bind fun (_, z9) =>
      T_X9_countSquares_70 z9 (l2 + 1) l3 l4 l5
  else
    T_X9_countSquares_70 z l2 l3 l4 l5
set_option maxRecDepth 100000 in
set_option maxHeartbeats 4000000 in
theorem t_X9_countSquares_52 {z : q_Z} {l2 : Int32} {l3 : Int32} {l4 : Int32} {l5 : Int32} {s2 : Int32 × Int32 × Int32 × Int32 × q_Z} {t : Nat} {r : Option Value} {h2 : q_H} (h : T_X9_countSquares_52 z l2 l3 l4 l5 = some (s2, t)) (k0 : t = 0 → q_Ex none 96 19 [(0, .ref 1), (2, .int s2.1), (3, .int s2.2.1), (4, .int s2.2.2.1), (5, .int s2.2.2.2.1)] [] (q_K0, s2.2.2.2.2.1, s2.2.2.2.2.2, q_R0) r h2) (k1 : t = 1 → q_Ex none 96 87 [(0, .ref 1), (2, .int s2.1), (3, .int s2.2.1), (4, .int s2.2.2.1), (5, .int s2.2.2.2.1)] [] (q_K0, s2.2.2.2.2.1, s2.2.2.2.2.2, q_R0) r h2) : q_Ex none 96 52 [(0, .ref 1), (2, .int l2), (3, .int l3), (4, .int l4), (5, .int l5)] [] (q_K0, z.1, z.2, q_R0) r h2 := by
  unfold T_X9_countSquares_52 at h
  refine q_blk2 (pc2 := 54) (ls2 := [(0, .ref 1), (2, .int l2), (3, .int l3), (4, .int l4), (5, .int l5)]) (st2 := [.int l4]) (h2 := (q_K0, z.1, z.2, q_R0)) [(.iload 4, 0, 0, 0, 0, 0)] (by decide +kernel) rfl rfl ⟨trivial, trivial⟩ ?_
  refine q_if_ne (off := 16) (tgt := 70) (by decide +kernel) (by decide) (fun c54_1 => ?_) (fun c54_1 => ?_)
  · rw [if_neg c54_1] at h
    refine q_pick [0, 1, 2, 3, 4] rfl ?_
    exact t_X9_countSquares_70 h k0 k1
  · rw [if_pos c54_1] at h
    refine q_blk2 (pc2 := 64) (ls2 := [(0, .ref 1), (2, .int l2), (3, .int l3), (4, .int l4), (5, .int l5)]) (st2 := [.int l3, .int l5, .ref 122]) (h2 := (q_K0, z.1, z.2, q_R0)) [(.aload_n 0, 0, 0, 0, 0, 0), (.getfield 45, 0, 8, 5, 0, 0), (.iload 5, 0, 0, 0, 0, 0), (.iload_n 3, 0, 0, 0, 0, 0)] (by decide +kernel) rfl rfl ⟨trivial, rfl, trivial, trivial, trivial⟩ ?_
    obtain ⟨⟨_, z9⟩, hc10, h⟩ := Option.bind_eq_some_iff.mp h
    dsimp only at h
    refine q_cV0 (idx := 301) (h1 := (q_K0, z9.1, z9.2, q_R0)) [.int l3, .int l5, .ref 122] 34 122 4 [.int l5, .int l3] [] rfl (by decide +kernel) (by decide +kernel) rfl (Nat.le_of_ble_eq_true rfl) rfl (by decide) (by decide +kernel) (by decide +kernel) (s_X4_insert hc10) ?_
    refine q_blk2 (pc2 := 70) (ls2 := [(2, .int (l2 + 1)), (0, .ref 1), (3, .int l3), (4, .int l4), (5, .int l5)]) (st2 := []) (h2 := (q_K0, z9.1, z9.2, q_R0)) [(.iinc 2 1, 0, 0, 0, 1, 0)] (by decide +kernel) rfl rfl ⟨trivial, trivial⟩ ?_
    refine q_pick [1, 0, 2, 3, 4] rfl ?_
    exact t_X9_countSquares_70 h k0 k1
def B_X9_countSquares_19 : Int32 × Int32 × Int32 × Int32 × q_Z → Option ((Int32 × Int32 × Int32 × Int32 × q_Z) × Nat) := fun (l2, l3, l4, l5, z) =>
  if l3 < l5 then
    some ((l2, l3, l4, l5, z), 1)
  else
    (q_lp (B_X9_countSquares_25) q_fu (l2, l3, l4, l5, z)).bind fun ((w4, w5, w6, w7, z3), tg) =>
      if tg = 0 then
        T_X9_countSquares_52 z3 w4 w5 w6 w7
      else none
set_option maxRecDepth 100000 in
set_option maxHeartbeats 4000000 in
theorem b_X9_countSquares_19 {s s2 : Int32 × Int32 × Int32 × Int32 × q_Z} {t : Nat} {r : Option Value} {h2 : q_H} (h : B_X9_countSquares_19 s = some (s2, t)) (k0 : t = 0 → q_Ex none 96 19 [(0, .ref 1), (2, .int s2.1), (3, .int s2.2.1), (4, .int s2.2.2.1), (5, .int s2.2.2.2.1)] [] (q_K0, s2.2.2.2.2.1, s2.2.2.2.2.2, q_R0) r h2) (k1 : t = 1 → q_Ex none 96 87 [(0, .ref 1), (2, .int s2.1), (3, .int s2.2.1), (4, .int s2.2.2.1), (5, .int s2.2.2.2.1)] [] (q_K0, s2.2.2.2.2.1, s2.2.2.2.2.2, q_R0) r h2) : q_Ex none 96 19 [(0, .ref 1), (2, .int s.1), (3, .int s.2.1), (4, .int s.2.2.1), (5, .int s.2.2.2.1)] [] (q_K0, s.2.2.2.2.1, s.2.2.2.2.2, q_R0) r h2 := by
  unfold B_X9_countSquares_19 at h
  obtain ⟨l2, l3, l4, l5, z⟩ := s
  dsimp only at h
  show q_Ex none 96 19 [(0, .ref 1), (2, .int l2), (3, .int l3), (4, .int l4), (5, .int l5)] [] (q_K0, z.1, z.2, q_R0) r h2
  refine q_blk2 (pc2 := 22) (ls2 := [(0, .ref 1), (2, .int l2), (3, .int l3), (4, .int l4), (5, .int l5)]) (st2 := [.int l3, .int l5]) (h2 := (q_K0, z.1, z.2, q_R0)) [(.iload 5, 0, 0, 0, 0, 0), (.iload_n 3, 0, 0, 0, 0, 0)] (by decide +kernel) rfl rfl ⟨trivial, trivial, trivial⟩ ?_
  refine q_ic_gt (off := 65) (tgt := 87) (by decide +kernel) (by decide) (fun c22_1 => ?_) (fun c22_1 => ?_)
  · rw [if_pos c22_1] at h
    cases h
    refine q_pick [0, 1, 2, 3, 4] rfl ?_
    exact k1 rfl
  · rw [if_neg c22_1] at h
    obtain ⟨⟨⟨w4, w5, w6, w7, z3⟩, tg12⟩, hl11, h⟩ := Option.bind_eq_some_iff.mp h
    dsimp only at h
    refine q_pick [0, 1, 2, 3, 4] rfl ?_
    refine q_lp_ok (P := fun s => q_Ex _ 96 25 [(0, .ref 1), (2, .int s.1), (3, .int s.2.1), (4, .int s.2.2.1), (5, .int s.2.2.2.1)] [] (q_K0, s.2.2.2.2.1, s.2.2.2.2.2, q_R0) _ _) (X := fun u s => (u = 0 → q_Ex _ 96 52 [(0, .ref 1), (2, .int s.1), (3, .int s.2.1), (4, .int s.2.2.1), (5, .int s.2.2.2.1)] [] (q_K0, s.2.2.2.2.1, s.2.2.2.2.2, q_R0) _ _)) (fun s s2 t hh k0 kx => b_X9_countSquares_25 hh k0 (fun e => (kx 0 e) rfl)) hl11 ?_
    · intro e_tg12
      subst e_tg12
      rw [if_pos rfl] at h
      show q_Ex _ 96 52 [(0, .ref 1), (2, .int w4), (3, .int w5), (4, .int w6), (5, .int w7)] [] (q_K0, z3.1, z3.2, q_R0) _ _
      refine q_pick [0, 1, 2, 3, 4] rfl ?_
      exact t_X9_countSquares_52 h k0 k1
/-- RootForms.countSquares(I)I -/
def F_X9_countSquares (z : q_Z) (l1 : Int32) : Option (Int32 × q_Z) :=
  (F_X7_rootOf z (Int32.toInt64 l1)).bind fun (r1, z2) =>
    (q_lp (B_X9_countSquares_19) q_fu (0, Int64.toInt32 r1, ((Int64.toInt32 r1) * (Int64.toInt32 r1)) - l1, 0, z2)).bind fun ((w14, w15, w16, w17, z13), tg) =>
      if tg = 0 then
        some (w14, z13)
      else none
set_option maxRecDepth 100000 in
set_option maxHeartbeats 4000000 in
theorem s_X9_countSquares {z zR : q_Z} {l1 : Int32} {rv : Int32} (h : F_X9_countSquares z l1 = some (rv, zR)) : q_Ca 96 [.ref 1, .int l1] (q_K0, z.1, z.2, q_R0) (some (.int rv)) (q_K0, zR.1, zR.2, q_R0) := by
  refine q_Ca_of (by decide) (Nat.le_of_ble_eq_true rfl) ?_
  show q_Ex none 96 0 [(0, .ref 1), (1, .int l1)] [] (q_K0, z.1, z.2, q_R0) _ _
  unfold F_X9_countSquares at h
  refine q_blk2 (pc2 := 4) (ls2 := [(2, .int 0), (0, .ref 1), (1, .int l1)]) (st2 := [.long (Int32.toInt64 l1)]) (h2 := (q_K0, z.1, z.2, q_R0)) [(.iconst 0, 0, 0, 0, 0, 0), (.istore_n 2, 0, 0, 0, 0, 0), (.iload_n 1, 0, 0, 0, 0, 0), (.i2l, 0, 0, 0, 0, 0)] (by decide +kernel) rfl rfl ⟨trivial, trivial, trivial, trivial, trivial⟩ ?_
  obtain ⟨⟨r1, z2⟩, hc18, h⟩ := Option.bind_eq_some_iff.mp h
  dsimp only at h
  refine q_cS1 (idx := 291) (v := .long r1) (h1 := (q_K0, z2.1, z2.2, q_R0)) [.long (Int32.toInt64 l1)] 48 [.long (Int32.toInt64 l1)] [] rfl (by decide +kernel) (by decide +kernel) rfl (Nat.le_of_ble_eq_true rfl) (by decide +kernel) (s_X7_rootOf hc18) ?_
  refine q_blk2 (pc2 := 19) (ls2 := [(5, .int 0), (4, .int (((Int64.toInt32 r1) * (Int64.toInt32 r1)) - l1)), (3, .int (Int64.toInt32 r1)), (2, .int 0), (0, .ref 1), (1, .int l1)]) (st2 := []) (h2 := (q_K0, z2.1, z2.2, q_R0)) [(.l2i, 0, 0, 0, 0, 0), (.istore_n 3, 0, 0, 0, 0, 0), (.iload_n 3, 0, 0, 0, 0, 0), (.iload_n 3, 0, 0, 0, 0, 0), (.imul, 0, 0, 0, 0, 0), (.iload_n 1, 0, 0, 0, 0, 0), (.isub, 0, 0, 0, 0, 0), (.istore 4, 0, 0, 0, 0, 0), (.iconst 0, 0, 0, 0, 0, 0), (.istore 5, 0, 0, 0, 0, 0)] (by decide +kernel) rfl rfl ⟨trivial, trivial, trivial, trivial, trivial, trivial, trivial, trivial, trivial, trivial, trivial⟩ ?_
  obtain ⟨⟨⟨w14, w15, w16, w17, z13⟩, tg20⟩, hl19, h⟩ := Option.bind_eq_some_iff.mp h
  dsimp only at h
  refine q_pick [4, 3, 2, 1, 0] rfl ?_
  refine q_lp_ok (P := fun s => q_Ex _ 96 19 [(0, .ref 1), (2, .int s.1), (3, .int s.2.1), (4, .int s.2.2.1), (5, .int s.2.2.2.1)] [] (q_K0, s.2.2.2.2.1, s.2.2.2.2.2, q_R0) _ _) (X := fun u s => (u = 0 → q_Ex _ 96 87 [(0, .ref 1), (2, .int s.1), (3, .int s.2.1), (4, .int s.2.2.1), (5, .int s.2.2.2.1)] [] (q_K0, s.2.2.2.2.1, s.2.2.2.2.2, q_R0) _ _)) (fun s s2 t hh k0 kx => b_X9_countSquares_19 hh k0 (fun e => (kx 0 e) rfl)) hl19 ?_
  · intro e_tg20
    subst e_tg20
    rw [if_pos rfl] at h
    show q_Ex _ 96 87 [(0, .ref 1), (2, .int w14), (3, .int w15), (4, .int w16), (5, .int w17)] [] (q_K0, z13.1, z13.2, q_R0) _ _
    refine q_blk2 (pc2 := 88) (ls2 := [(0, .ref 1), (2, .int w14), (3, .int w15), (4, .int w16), (5, .int w17)]) (st2 := [.int w14]) (h2 := (q_K0, z13.1, z13.2, q_R0)) [(.iload_n 2, 0, 0, 0, 0, 0)] (by decide +kernel) rfl rfl ⟨trivial, trivial⟩ ?_
    cases h
    exact q_iret .int rfl rfl (by decide +kernel)
