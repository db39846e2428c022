/-! pure functions of the methods, and that the methods do what they say (written by wip/whole/dec.py) -/
def T_X10_check_21 (z : q_Z) : Option (Int32 × q_Z) :=
  (F_X10_no z 2).bind fun (r3, z4) =>
    some (r3, z4)
set_option maxRecDepth 100000 in
set_option maxHeartbeats 4000000 in
theorem t_X10_check_21 {z zR : q_Z} {rv : Int32} (h : T_X10_check_21 z = some (rv, zR)) : q_Ex none 126 21 [(0, .ref 128)] [] (q_K0, z.1, z.2, q_R0) (some (.int rv)) (q_K0, zR.1, zR.2, q_R0) := by
  unfold T_X10_check_21 at h
  refine q_blk2 (pc2 := 23) (ls2 := [(0, .ref 128)]) (st2 := [.int 2, .ref 128]) (h2 := (q_K0, z.1, z.2, q_R0)) [(.aload_n 0, 0, 0, 0, 0, 0), (.iconst 2, 0, 0, 0, 2, 0)] (by decide +kernel) rfl rfl ⟨trivial, trivial, trivial⟩ ?_
  obtain ⟨⟨r3, z4⟩, hc5, h⟩ := Option.bind_eq_some_iff.mp h
  dsimp only at h
  refine q_cV1 (idx := 152) (v := .int r3) (h1 := (q_K0, z4.1, z4.2, q_R0)) [.int 2, .ref 128] 98 128 9 [.int 2] [] rfl (by decide +kernel) (by decide +kernel) rfl (Nat.le_of_ble_eq_true rfl) rfl (by decide) (by decide +kernel) (by decide +kernel) (s_X10_no hc5) ?_
  cases h
  exact q_iret .int rfl rfl (by decide +kernel)
def T_X10_check_90 (z : q_Z) : Option (Int32 × q_Z) :=
  (F_X10_no z 1).bind fun (r10, z11) =>
    some (r10, z11)
set_option maxRecDepth 100000 in
set_option maxHeartbeats 4000000 in
theorem t_X10_check_90 {z zR : q_Z} {rv : Int32} (h : T_X10_check_90 z = some (rv, zR)) : q_Ex none 126 90 [(0, .ref 128)] [] (q_K0, z.1, z.2, q_R0) (some (.int rv)) (q_K0, zR.1, zR.2, q_R0) := by
  unfold T_X10_check_90 at h
  refine q_blk2 (pc2 := 92) (ls2 := [(0, .ref 128)]) (st2 := [.int 1, .ref 128]) (h2 := (q_K0, z.1, z.2, q_R0)) [(.aload_n 0, 0, 0, 0, 0, 0), (.iconst 1, 0, 0, 0, 1, 0)] (by decide +kernel) rfl rfl ⟨trivial, trivial, trivial⟩ ?_
  obtain ⟨⟨r10, z11⟩, hc12, h⟩ := Option.bind_eq_some_iff.mp h
  dsimp only at h
  refine q_cV1 (idx := 152) (v := .int r10) (h1 := (q_K0, z11.1, z11.2, q_R0)) [.int 1, .ref 128] 98 128 9 [.int 1] [] rfl (by decide +kernel) (by decide +kernel) rfl (Nat.le_of_ble_eq_true rfl) rfl (by decide) (by decide +kernel) (by decide +kernel) (s_X10_no hc12) ?_
  cases h
  exact q_iret .int rfl rfl (by decide +kernel)
def T_X10_check_317 (z : q_Z) : Option (Int32 × q_Z) :=
  some (0, z)
set_option maxRecDepth 100000 in
set_option maxHeartbeats 4000000 in
theorem t_X10_check_317 {z zR : q_Z} {rv : Int32} (h : T_X10_check_317 z = some (rv, zR)) : q_Ex none 126 317 [] [] (q_K0, z.1, z.2, q_R0) (some (.int rv)) (q_K0, zR.1, zR.2, q_R0) := by
  unfold T_X10_check_317 at h
  refine q_blk2 (pc2 := 318) (ls2 := []) (st2 := [.int 0]) (h2 := (q_K0, z.1, z.2, q_R0)) [(.iconst 0, 0, 0, 0, 0, 0)] (by decide +kernel) rfl rfl ⟨trivial, trivial⟩ ?_
  cases h
  exact q_iret .int rfl rfl (by decide +kernel)
/-- RootFormsModel.check(IIIIII)I -/
def F_X10_check (z : q_Z) (l1 : Int32) (l2 : Int32) (l3 : Int32) (l4 : Int32) (l5 : Int32) (l6 : Int32) : Option (Int32 × q_Z) :=
  (F_X10_isPlace (q_u2 z.1 128 3 0, z.2) l1).bind fun (r1, z2) =>
    if r1 = (0 : Int32) then
      T_X10_check_21 z2
    else
      (F_X10_isPlace z2 l2).bind fun (r6, z7) =>
        if r6 = (0 : Int32) then
          T_X10_check_21 z7
        else
          (F_X10_in z7 (Int32.toInt64 l3) (-1000000) 1000000).bind fun (r8, z9) =>
            if r8 = (0 : Int32) then
              T_X10_check_90 z9
            else
              (F_X10_in z9 (Int32.toInt64 l4) (-1000000) 1000000).bind fun (r13, z14) =>
                if r13 = (0 : Int32) then
                  T_X10_check_90 z14
                else
                  (F_X10_in z14 (Int32.toInt64 l5) (-1000000) 1000000).bind fun (r15, z16) =>
                    if r15 = (0 : Int32) then
                      T_X10_check_90 z16
                    else
                      (F_X10_in z16 (Int32.toInt64 l6) (-1000000) 1000000).bind fun (r17, z18) =>
                        if r17 = (0 : Int32) then
                          T_X10_check_90 z18
                        else
                          if (((Int32.toInt64 l3) * (Int32.toInt64 l6)) - ((Int32.toInt64 l4) * (Int32.toInt64 l5))) = (1 : Int64) then
                            (F_X10_take (q_u2 z18.1 128 2 0, z18.2) l1).bind fun (_, z20) =>
                              if 0 ≤ Int32.toInt (3 * l2) ∧ Int32.toInt (3 * l2) < 120 then
                                if (((((z20.2 128 12) * (Int32.toInt64 l3)) * (Int32.toInt64 l3)) + (((z20.2 128 13) * (Int32.toInt64 l3)) * (Int32.toInt64 l5))) + (((z20.2 128 14) * (Int32.toInt64 l5)) * (Int32.toInt64 l5))) = (z20.2 129 (Int32.toNatClampNeg (3 * l2))) then
                                  if 0 ≤ Int32.toInt ((3 * l2) + 1) ∧ Int32.toInt ((3 * l2) + 1) < 120 then
                                    if (((((2 * (z20.2 128 12)) * (Int32.toInt64 l3)) * (Int32.toInt64 l4)) + ((z20.2 128 13) * (((Int32.toInt64 l3) * (Int32.toInt64 l6)) + ((Int32.toInt64 l4) * (Int32.toInt64 l5))))) + (((2 * (z20.2 128 14)) * (Int32.toInt64 l5)) * (Int32.toInt64 l6))) = (z20.2 129 (Int32.toNatClampNeg ((3 * l2) + 1))) then
                                      if 0 ≤ Int32.toInt ((3 * l2) + 2) ∧ Int32.toInt ((3 * l2) + 2) < 120 then
                                        if (((((z20.2 128 12) * (Int32.toInt64 l4)) * (Int32.toInt64 l4)) + (((z20.2 128 13) * (Int32.toInt64 l4)) * (Int32.toInt64 l6))) + (((z20.2 128 14) * (Int32.toInt64 l6)) * (Int32.toInt64 l6))) = (z20.2 129 (Int32.toNatClampNeg ((3 * l2) + 2))) then
                                          some (1, z20)
                                        else
                                          T_X10_check_317 z20
                                      else none
                                    else
                                      T_X10_check_317 z20
                                  else none
                                else
                                  T_X10_check_317 z20
                              else none
                          else
                            (F_X10_no z18 7).bind fun (r24, z25) =>
                              some (r24, z25)
set_option maxRecDepth 100000 in
set_option maxHeartbeats 4000000 in
theorem s_X10_check {z zR : q_Z} {l1 : Int32} {l2 : Int32} {l3 : Int32} {l4 : Int32} {l5 : Int32} {l6 : Int32} {rv : Int32} (h : F_X10_check z l1 l2 l3 l4 l5 l6 = some (rv, zR)) : q_Ca 126 [.ref 128, .int l1, .int l2, .int l3, .int l4, .int l5, .int l6] (q_K0, z.1, z.2, q_R0) (some (.int rv)) (q_K0, zR.1, zR.2, q_R0) := by
  refine q_Ca_of (by decide) (Nat.le_of_ble_eq_true rfl) ?_
  show q_Ex none 126 0 [(0, .ref 128), (1, .int l1), (2, .int l2), (3, .int l3), (4, .int l4), (5, .int l5), (6, .int l6)] [] (q_K0, z.1, z.2, q_R0) _ _
  unfold F_X10_check at h
  refine q_blk2 (pc2 := 7) (ls2 := [(0, .ref 128), (1, .int l1), (2, .int l2), (3, .int l3), (4, .int l4), (5, .int l5), (6, .int l6)]) (st2 := [.int l1, .ref 128]) (h2 := (q_K0, q_u2 z.1 128 3 0, z.2, q_R0)) [(.aload_n 0, 0, 0, 0, 0, 0), (.iconst 0, 0, 0, 0, 0, 0), (.putfield 57, 0, 9, 3, 0, 0), (.aload_n 0, 0, 0, 0, 0, 0), (.iload_n 1, 0, 0, 0, 0, 0)] (by decide +kernel) rfl rfl ⟨trivial, trivial, ⟨rfl, rfl, rfl⟩, trivial, trivial, trivial⟩ ?_
  obtain ⟨⟨r1, z2⟩, hc26, h⟩ := Option.bind_eq_some_iff.mp h
  dsimp only at h
  refine q_cV1 (idx := 162) (v := .int r1) (h1 := (q_K0, z2.1, z2.2, q_R0)) [.int l1, .ref 128] 116 128 9 [.int l1] [] rfl (by decide +kernel) (by decide +kernel) rfl (Nat.le_of_ble_eq_true rfl) rfl (by decide) (by decide +kernel) (by decide +kernel) (s_X10_isPlace hc26) ?_
  refine q_if_eq (off := 11) (tgt := 21) (by decide +kernel) (by decide) (fun c10_1 => ?_) (fun c10_1 => ?_)
  · rw [if_pos c10_1] at h
    refine q_pick [0] rfl ?_
    exact t_X10_check_21 h
  · rw [if_neg c10_1] at h
    refine q_blk2 (pc2 := 15) (ls2 := [(0, .ref 128), (1, .int l1), (2, .int l2), (3, .int l3), (4, .int l4), (5, .int l5), (6, .int l6)]) (st2 := [.int l2, .ref 128]) (h2 := (q_K0, z2.1, z2.2, q_R0)) [(.aload_n 0, 0, 0, 0, 0, 0), (.iload_n 2, 0, 0, 0, 0, 0)] (by decide +kernel) rfl rfl ⟨trivial, trivial, trivial⟩ ?_
    obtain ⟨⟨r6, z7⟩, hc27, h⟩ := Option.bind_eq_some_iff.mp h
    dsimp only at h
    refine q_cV1 (idx := 162) (v := .int r6) (h1 := (q_K0, z7.1, z7.2, q_R0)) [.int l2, .ref 128] 116 128 9 [.int l2] [] rfl (by decide +kernel) (by decide +kernel) rfl (Nat.le_of_ble_eq_true rfl) rfl (by decide) (by decide +kernel) (by decide +kernel) (s_X10_isPlace hc27) ?_
    refine q_if_ne (off := 9) (tgt := 27) (by decide +kernel) (by decide) (fun c18_2 => ?_) (fun c18_2 => ?_)
    · rw [if_neg c18_2] at h
      refine q_blk2 (pc2 := 36) (ls2 := [(0, .ref 128), (1, .int l1), (2, .int l2), (3, .int l3), (4, .int l4), (5, .int l5), (6, .int l6)]) (st2 := [.long 1000000, .long (-1000000), .long (Int32.toInt64 l3), .ref 128]) (h2 := (q_K0, z7.1, z7.2, q_R0)) [(.aload_n 0, 0, 0, 0, 0, 0), (.iload_n 3, 0, 0, 0, 0, 0), (.i2l, 0, 0, 0, 0, 0), (.ldc2_w 148, 0, 0, 0, 0, (-1000000)), (.ldc2_w 150, 0, 0, 0, 0, 1000000)] (by decide +kernel) rfl rfl ⟨trivial, trivial, trivial, trivial, trivial, trivial⟩ ?_
      obtain ⟨⟨r8, z9⟩, hc28, h⟩ := Option.bind_eq_some_iff.mp h
      dsimp only at h
      refine q_cV1 (idx := 138) (v := .int r8) (h1 := (q_K0, z9.1, z9.2, q_R0)) [.long 1000000, .long (-1000000), .long (Int32.toInt64 l3), .ref 128] 99 128 9 [.long (Int32.toInt64 l3), .long (-1000000), .long 1000000] [] rfl (by decide +kernel) (by decide +kernel) rfl (Nat.le_of_ble_eq_true rfl) rfl (by decide) (by decide +kernel) (by decide +kernel) (s_X10_in hc28) ?_
      refine q_if_eq (off := 51) (tgt := 90) (by decide +kernel) (by decide) (fun c39_3 => ?_) (fun c39_3 => ?_)
      · rw [if_pos c39_3] at h
        refine q_pick [0] rfl ?_
        exact t_X10_check_90 h
      · rw [if_neg c39_3] at h
        refine q_blk2 (pc2 := 52) (ls2 := [(0, .ref 128), (1, .int l1), (2, .int l2), (3, .int l3), (4, .int l4), (5, .int l5), (6, .int l6)]) (st2 := [.long 1000000, .long (-1000000), .long (Int32.toInt64 l4), .ref 128]) (h2 := (q_K0, z9.1, z9.2, q_R0)) [(.aload_n 0, 0, 0, 0, 0, 0), (.iload 4, 0, 0, 0, 0, 0), (.i2l, 0, 0, 0, 0, 0), (.ldc2_w 148, 0, 0, 0, 0, (-1000000)), (.ldc2_w 150, 0, 0, 0, 0, 1000000)] (by decide +kernel) rfl rfl ⟨trivial, trivial, trivial, trivial, trivial, trivial⟩ ?_
        obtain ⟨⟨r13, z14⟩, hc29, h⟩ := Option.bind_eq_some_iff.mp h
        dsimp only at h
        refine q_cV1 (idx := 138) (v := .int r13) (h1 := (q_K0, z14.1, z14.2, q_R0)) [.long 1000000, .long (-1000000), .long (Int32.toInt64 l4), .ref 128] 99 128 9 [.long (Int32.toInt64 l4), .long (-1000000), .long 1000000] [] rfl (by decide +kernel) (by decide +kernel) rfl (Nat.le_of_ble_eq_true rfl) rfl (by decide) (by decide +kernel) (by decide +kernel) (s_X10_in hc29) ?_
        refine q_if_eq (off := 35) (tgt := 90) (by decide +kernel) (by decide) (fun c55_4 => ?_) (fun c55_4 => ?_)
        · rw [if_pos c55_4] at h
          refine q_pick [0] rfl ?_
          exact t_X10_check_90 h
        · rw [if_neg c55_4] at h
          refine q_blk2 (pc2 := 68) (ls2 := [(0, .ref 128), (1, .int l1), (2, .int l2), (3, .int l3), (4, .int l4), (5, .int l5), (6, .int l6)]) (st2 := [.long 1000000, .long (-1000000), .long (Int32.toInt64 l5), .ref 128]) (h2 := (q_K0, z14.1, z14.2, q_R0)) [(.aload_n 0, 0, 0, 0, 0, 0), (.iload 5, 0, 0, 0, 0, 0), (.i2l, 0, 0, 0, 0, 0), (.ldc2_w 148, 0, 0, 0, 0, (-1000000)), (.ldc2_w 150, 0, 0, 0, 0, 1000000)] (by decide +kernel) rfl rfl ⟨trivial, trivial, trivial, trivial, trivial, trivial⟩ ?_
          obtain ⟨⟨r15, z16⟩, hc30, h⟩ := Option.bind_eq_some_iff.mp h
          dsimp only at h
          refine q_cV1 (idx := 138) (v := .int r15) (h1 := (q_K0, z16.1, z16.2, q_R0)) [.long 1000000, .long (-1000000), .long (Int32.toInt64 l5), .ref 128] 99 128 9 [.long (Int32.toInt64 l5), .long (-1000000), .long 1000000] [] rfl (by decide +kernel) (by decide +kernel) rfl (Nat.le_of_ble_eq_true rfl) rfl (by decide) (by decide +kernel) (by decide +kernel) (s_X10_in hc30) ?_
          refine q_if_eq (off := 19) (tgt := 90) (by decide +kernel) (by decide) (fun c71_5 => ?_) (fun c71_5 => ?_)
          · rw [if_pos c71_5] at h
            refine q_pick [0] rfl ?_
            exact t_X10_check_90 h
          · rw [if_neg c71_5] at h
            refine q_blk2 (pc2 := 84) (ls2 := [(0, .ref 128), (1, .int l1), (2, .int l2), (3, .int l3), (4, .int l4), (5, .int l5), (6, .int l6)]) (st2 := [.long 1000000, .long (-1000000), .long (Int32.toInt64 l6), .ref 128]) (h2 := (q_K0, z16.1, z16.2, q_R0)) [(.aload_n 0, 0, 0, 0, 0, 0), (.iload 6, 0, 0, 0, 0, 0), (.i2l, 0, 0, 0, 0, 0), (.ldc2_w 148, 0, 0, 0, 0, (-1000000)), (.ldc2_w 150, 0, 0, 0, 0, 1000000)] (by decide +kernel) rfl rfl ⟨trivial, trivial, trivial, trivial, trivial, trivial⟩ ?_
            obtain ⟨⟨r17, z18⟩, hc31, h⟩ := Option.bind_eq_some_iff.mp h
            dsimp only at h
            refine q_cV1 (idx := 138) (v := .int r17) (h1 := (q_K0, z18.1, z18.2, q_R0)) [.long 1000000, .long (-1000000), .long (Int32.toInt64 l6), .ref 128] 99 128 9 [.long (Int32.toInt64 l6), .long (-1000000), .long 1000000] [] rfl (by decide +kernel) (by decide +kernel) rfl (Nat.le_of_ble_eq_true rfl) rfl (by decide) (by decide +kernel) (by decide +kernel) (s_X10_in hc31) ?_
            refine q_if_ne (off := 9) (tgt := 96) (by decide +kernel) (by decide) (fun c87_6 => ?_) (fun c87_6 => ?_)
            · rw [if_neg c87_6] at h
              refine q_blk2 (pc2 := 111) (ls2 := [(0, .ref 128), (1, .int l1), (2, .int l2), (3, .int l3), (4, .int l4), (5, .int l5), (6, .int l6)]) (st2 := [.long 1, .long (((Int32.toInt64 l3) * (Int32.toInt64 l6)) - ((Int32.toInt64 l4) * (Int32.toInt64 l5)))]) (h2 := (q_K0, z18.1, z18.2, q_R0)) [(.iload_n 3, 0, 0, 0, 0, 0), (.i2l, 0, 0, 0, 0, 0), (.iload 6, 0, 0, 0, 0, 0), (.i2l, 0, 0, 0, 0, 0), (.lmul, 0, 0, 0, 0, 0), (.iload 4, 0, 0, 0, 0, 0), (.i2l, 0, 0, 0, 0, 0), (.iload 5, 0, 0, 0, 0, 0), (.i2l, 0, 0, 0, 0, 0), (.lmul, 0, 0, 0, 0, 0), (.lsub, 0, 0, 0, 0, 0), (.lconst 1, 0, 0, 0, 0, 1)] (by decide +kernel) rfl rfl ⟨trivial, trivial, trivial, trivial, trivial, trivial, trivial, trivial, trivial, trivial, trivial, trivial, trivial⟩ ?_
              refine q_lc_eq (off := 10) (tgt := 122) (by decide +kernel) (by decide +kernel) (by decide) (fun c111_7 => ?_) (fun c111_7 => ?_)
              · rw [if_pos c111_7] at h
                refine q_blk2 (pc2 := 129) (ls2 := [(0, .ref 128), (1, .int l1), (2, .int l2), (3, .int l3), (4, .int l4), (5, .int l5), (6, .int l6)]) (st2 := [.int l1, .ref 128]) (h2 := (q_K0, q_u2 z18.1 128 2 0, z18.2, q_R0)) [(.aload_n 0, 0, 0, 0, 0, 0), (.iconst 0, 0, 0, 0, 0, 0), (.putfield 61, 0, 9, 2, 0, 0), (.aload_n 0, 0, 0, 0, 0, 0), (.iload_n 1, 0, 0, 0, 0, 0)] (by decide +kernel) rfl rfl ⟨trivial, trivial, ⟨rfl, rfl, rfl⟩, trivial, trivial, trivial⟩ ?_
                obtain ⟨⟨_, z20⟩, hc32, h⟩ := Option.bind_eq_some_iff.mp h
                dsimp only at h
                refine q_cV0 (idx := 166) (h1 := (q_K0, z20.1, z20.2, q_R0)) [.int l1, .ref 128] 103 128 9 [.int l1] [] rfl (by decide +kernel) (by decide +kernel) rfl (Nat.le_of_ble_eq_true rfl) rfl (by decide) (by decide +kernel) (by decide +kernel) (s_X10_take hc32) ?_
                have b21 : 0 ≤ Int32.toInt (3 * l2) ∧ Int32.toInt (3 * l2) < 120 := by
                  by_cases q : 0 ≤ Int32.toInt (3 * l2) ∧ Int32.toInt (3 * l2) < 120
                  · exact q
                  · rw [if_neg q] at h; cases h
                rw [if_pos b21] at h
                refine q_blk2 (pc2 := 277) (ls2 := [(19, .long (((((z20.2 128 12) * (Int32.toInt64 l4)) * (Int32.toInt64 l4)) + (((z20.2 128 13) * (Int32.toInt64 l4)) * (Int32.toInt64 l6))) + (((z20.2 128 14) * (Int32.toInt64 l6)) * (Int32.toInt64 l6)))), (17, .long (((((2 * (z20.2 128 12)) * (Int32.toInt64 l3)) * (Int32.toInt64 l4)) + ((z20.2 128 13) * (((Int32.toInt64 l3) * (Int32.toInt64 l6)) + ((Int32.toInt64 l4) * (Int32.toInt64 l5))))) + (((2 * (z20.2 128 14)) * (Int32.toInt64 l5)) * (Int32.toInt64 l6)))), (15, .long (((((z20.2 128 12) * (Int32.toInt64 l3)) * (Int32.toInt64 l3)) + (((z20.2 128 13) * (Int32.toInt64 l3)) * (Int32.toInt64 l5))) + (((z20.2 128 14) * (Int32.toInt64 l5)) * (Int32.toInt64 l5)))), (13, .long (Int32.toInt64 l6)), (11, .long (Int32.toInt64 l5)), (9, .long (Int32.toInt64 l4)), (7, .long (Int32.toInt64 l3)), (0, .ref 128), (1, .int l1), (2, .int l2), (3, .int l3), (4, .int l4), (5, .int l5), (6, .int l6)]) (st2 := [.long (z20.2 129 (Int32.toNatClampNeg (3 * l2))), .long (((((z20.2 128 12) * (Int32.toInt64 l3)) * (Int32.toInt64 l3)) + (((z20.2 128 13) * (Int32.toInt64 l3)) * (Int32.toInt64 l5))) + (((z20.2 128 14) * (Int32.toInt64 l5)) * (Int32.toInt64 l5)))]) (h2 := (q_K0, z20.1, z20.2, q_R0)) [(.iload_n 3, 0, 0, 0, 0, 0), (.i2l, 0, 0, 0, 0, 0), (.lstore 7, 0, 0, 0, 0, 0), (.iload 4, 0, 0, 0, 0, 0), (.i2l, 0, 0, 0, 0, 0), (.lstore 9, 0, 0, 0, 0, 0), (.iload 5, 0, 0, 0, 0, 0), (.i2l, 0, 0, 0, 0, 0), (.lstore 11, 0, 0, 0, 0, 0), (.iload 6, 0, 0, 0, 0, 0), (.i2l, 0, 0, 0, 0, 0), (.lstore 13, 0, 0, 0, 0, 0), (.aload_n 0, 0, 0, 0, 0, 0), (.getfield 72, 0, 9, 12, 0, 0), (.lload 7, 0, 0, 0, 0, 0), (.lmul, 0, 0, 0, 0, 0), (.lload 7, 0, 0, 0, 0, 0), (.lmul, 0, 0, 0, 0, 0), (.aload_n 0, 0, 0, 0, 0, 0), (.getfield 76, 0, 9, 13, 0, 0), (.lload 7, 0, 0, 0, 0, 0), (.lmul, 0, 0, 0, 0, 0), (.lload 11, 0, 0, 0, 0, 0), (.lmul, 0, 0, 0, 0, 0), (.ladd, 0, 0, 0, 0, 0), (.aload_n 0, 0, 0, 0, 0, 0), (.getfield 79, 0, 9, 14, 0, 0), (.lload 11, 0, 0, 0, 0, 0), (.lmul, 0, 0, 0, 0, 0), (.lload 11, 0, 0, 0, 0, 0), (.lmul, 0, 0, 0, 0, 0), (.ladd, 0, 0, 0, 0, 0), (.lstore 15, 0, 0, 0, 0, 0), (.ldc2_w 70, 0, 0, 0, 0, 2), (.aload_n 0, 0, 0, 0, 0, 0), (.getfield 72, 0, 9, 12, 0, 0), (.lmul, 0, 0, 0, 0, 0), (.lload 7, 0, 0, 0, 0, 0), (.lmul, 0, 0, 0, 0, 0), (.lload 9, 0, 0, 0, 0, 0), (.lmul, 0, 0, 0, 0, 0), (.aload_n 0, 0, 0, 0, 0, 0), (.getfield 76, 0, 9, 13, 0, 0), (.lload 7, 0, 0, 0, 0, 0), (.lload 13, 0, 0, 0, 0, 0), (.lmul, 0, 0, 0, 0, 0), (.lload 9, 0, 0, 0, 0, 0), (.lload 11, 0, 0, 0, 0, 0), (.lmul, 0, 0, 0, 0, 0), (.ladd, 0, 0, 0, 0, 0), (.lmul, 0, 0, 0, 0, 0), (.ladd, 0, 0, 0, 0, 0), (.ldc2_w 70, 0, 0, 0, 0, 2), (.aload_n 0, 0, 0, 0, 0, 0), (.getfield 79, 0, 9, 14, 0, 0), (.lmul, 0, 0, 0, 0, 0), (.lload 11, 0, 0, 0, 0, 0), (.lmul, 0, 0, 0, 0, 0), (.lload 13, 0, 0, 0, 0, 0), (.lmul, 0, 0, 0, 0, 0), (.ladd, 0, 0, 0, 0, 0), (.lstore 17, 0, 0, 0, 0, 0), (.aload_n 0, 0, 0, 0, 0, 0), (.getfield 72, 0, 9, 12, 0, 0), (.lload 9, 0, 0, 0, 0, 0), (.lmul, 0, 0, 0, 0, 0), (.lload 9, 0, 0, 0, 0, 0), (.lmul, 0, 0, 0, 0, 0), (.aload_n 0, 0, 0, 0, 0, 0), (.getfield 76, 0, 9, 13, 0, 0), (.lload 9, 0, 0, 0, 0, 0), (.lmul, 0, 0, 0, 0, 0), (.lload 13, 0, 0, 0, 0, 0), (.lmul, 0, 0, 0, 0, 0), (.ladd, 0, 0, 0, 0, 0), (.aload_n 0, 0, 0, 0, 0, 0), (.getfield 79, 0, 9, 14, 0, 0), (.lload 13, 0, 0, 0, 0, 0), (.lmul, 0, 0, 0, 0, 0), (.lload 13, 0, 0, 0, 0, 0), (.lmul, 0, 0, 0, 0, 0), (.ladd, 0, 0, 0, 0, 0), (.lstore 19, 0, 0, 0, 0, 0), (.lload 15, 0, 0, 0, 0, 0), (.aload_n 0, 0, 0, 0, 0, 0), (.getfield 7, 0, 9, 4, 0, 0), (.iconst 3, 0, 0, 0, 3, 0), (.iload_n 2, 0, 0, 0, 0, 0), (.imul, 0, 0, 0, 0, 0), (.laload, 0, 0, 0, 0, 0)] (by decide +kernel) rfl rfl ⟨trivial, trivial, trivial, trivial, trivial, trivial, trivial, trivial, trivial, trivial, trivial, trivial, trivial, rfl, trivial, trivial, trivial, trivial, trivial, rfl, trivial, trivial, trivial, trivial, trivial, trivial, rfl, trivial, trivial, trivial, trivial, trivial, trivial, trivial, trivial, rfl, trivial, trivial, trivial, trivial, trivial, trivial, rfl, trivial, trivial, trivial, trivial, trivial, trivial, trivial, trivial, trivial, trivial, trivial, rfl, trivial, trivial, trivial, trivial, trivial, trivial, trivial, trivial, rfl, trivial, trivial, trivial, trivial, trivial, rfl, trivial, trivial, trivial, trivial, trivial, trivial, rfl, trivial, trivial, trivial, trivial, trivial, trivial, trivial, trivial, rfl, trivial, trivial, trivial, ⟨_, rfl, vp_in_iff.mpr b21⟩, trivial⟩ ?_
                refine q_lc_ne (off := 39) (tgt := 317) (by decide +kernel) (by decide +kernel) (by decide) (fun c277_8 => ?_) (fun c277_8 => ?_)
                · rw [if_neg c277_8] at h
                  refine q_pick [] rfl ?_
                  exact t_X10_check_317 h
                · rw [if_pos c277_8] at h
                  have b22 : 0 ≤ Int32.toInt ((3 * l2) + 1) ∧ Int32.toInt ((3 * l2) + 1) < 120 := by
                    by_cases q : 0 ≤ Int32.toInt ((3 * l2) + 1) ∧ Int32.toInt ((3 * l2) + 1) < 120
                    · exact q
                    · rw [if_neg q] at h; cases h
                  rw [if_pos b22] at h
                  refine q_blk2 (pc2 := 293) (ls2 := [(19, .long (((((z20.2 128 12) * (Int32.toInt64 l4)) * (Int32.toInt64 l4)) + (((z20.2 128 13) * (Int32.toInt64 l4)) * (Int32.toInt64 l6))) + (((z20.2 128 14) * (Int32.toInt64 l6)) * (Int32.toInt64 l6)))), (17, .long (((((2 * (z20.2 128 12)) * (Int32.toInt64 l3)) * (Int32.toInt64 l4)) + ((z20.2 128 13) * (((Int32.toInt64 l3) * (Int32.toInt64 l6)) + ((Int32.toInt64 l4) * (Int32.toInt64 l5))))) + (((2 * (z20.2 128 14)) * (Int32.toInt64 l5)) * (Int32.toInt64 l6)))), (15, .long (((((z20.2 128 12) * (Int32.toInt64 l3)) * (Int32.toInt64 l3)) + (((z20.2 128 13) * (Int32.toInt64 l3)) * (Int32.toInt64 l5))) + (((z20.2 128 14) * (Int32.toInt64 l5)) * (Int32.toInt64 l5)))), (13, .long (Int32.toInt64 l6)), (11, .long (Int32.toInt64 l5)), (9, .long (Int32.toInt64 l4)), (7, .long (Int32.toInt64 l3)), (0, .ref 128), (1, .int l1), (2, .int l2), (3, .int l3), (4, .int l4), (5, .int l5), (6, .int l6)]) (st2 := [.long (z20.2 129 (Int32.toNatClampNeg ((3 * l2) + 1))), .long (((((2 * (z20.2 128 12)) * (Int32.toInt64 l3)) * (Int32.toInt64 l4)) + ((z20.2 128 13) * (((Int32.toInt64 l3) * (Int32.toInt64 l6)) + ((Int32.toInt64 l4) * (Int32.toInt64 l5))))) + (((2 * (z20.2 128 14)) * (Int32.toInt64 l5)) * (Int32.toInt64 l6)))]) (h2 := (q_K0, z20.1, z20.2, q_R0)) [(.lload 17, 0, 0, 0, 0, 0), (.aload_n 0, 0, 0, 0, 0, 0), (.getfield 7, 0, 9, 4, 0, 0), (.iconst 3, 0, 0, 0, 3, 0), (.iload_n 2, 0, 0, 0, 0, 0), (.imul, 0, 0, 0, 0, 0), (.iconst 1, 0, 0, 0, 1, 0), (.iadd, 0, 0, 0, 0, 0), (.laload, 0, 0, 0, 0, 0)] (by decide +kernel) rfl rfl ⟨trivial, trivial, rfl, trivial, trivial, trivial, trivial, trivial, ⟨_, rfl, vp_in_iff.mpr b22⟩, trivial⟩ ?_
                  refine q_lc_ne (off := 23) (tgt := 317) (by decide +kernel) (by decide +kernel) (by decide) (fun c293_9 => ?_) (fun c293_9 => ?_)
                  · rw [if_neg c293_9] at h
                    refine q_pick [] rfl ?_
                    exact t_X10_check_317 h
                  · rw [if_pos c293_9] at h
                    have b23 : 0 ≤ Int32.toInt ((3 * l2) + 2) ∧ Int32.toInt ((3 * l2) + 2) < 120 := by
                      by_cases q : 0 ≤ Int32.toInt ((3 * l2) + 2) ∧ Int32.toInt ((3 * l2) + 2) < 120
                      · exact q
                      · rw [if_neg q] at h; cases h
                    rw [if_pos b23] at h
                    refine q_blk2 (pc2 := 309) (ls2 := [(19, .long (((((z20.2 128 12) * (Int32.toInt64 l4)) * (Int32.toInt64 l4)) + (((z20.2 128 13) * (Int32.toInt64 l4)) * (Int32.toInt64 l6))) + (((z20.2 128 14) * (Int32.toInt64 l6)) * (Int32.toInt64 l6)))), (17, .long (((((2 * (z20.2 128 12)) * (Int32.toInt64 l3)) * (Int32.toInt64 l4)) + ((z20.2 128 13) * (((Int32.toInt64 l3) * (Int32.toInt64 l6)) + ((Int32.toInt64 l4) * (Int32.toInt64 l5))))) + (((2 * (z20.2 128 14)) * (Int32.toInt64 l5)) * (Int32.toInt64 l6)))), (15, .long (((((z20.2 128 12) * (Int32.toInt64 l3)) * (Int32.toInt64 l3)) + (((z20.2 128 13) * (Int32.toInt64 l3)) * (Int32.toInt64 l5))) + (((z20.2 128 14) * (Int32.toInt64 l5)) * (Int32.toInt64 l5)))), (13, .long (Int32.toInt64 l6)), (11, .long (Int32.toInt64 l5)), (9, .long (Int32.toInt64 l4)), (7, .long (Int32.toInt64 l3)), (0, .ref 128), (1, .int l1), (2, .int l2), (3, .int l3), (4, .int l4), (5, .int l5), (6, .int l6)]) (st2 := [.long (z20.2 129 (Int32.toNatClampNeg ((3 * l2) + 2))), .long (((((z20.2 128 12) * (Int32.toInt64 l4)) * (Int32.toInt64 l4)) + (((z20.2 128 13) * (Int32.toInt64 l4)) * (Int32.toInt64 l6))) + (((z20.2 128 14) * (Int32.toInt64 l6)) * (Int32.toInt64 l6)))]) (h2 := (q_K0, z20.1, z20.2, q_R0)) [(.lload 19, 0, 0, 0, 0, 0), (.aload_n 0, 0, 0, 0, 0, 0), (.getfield 7, 0, 9, 4, 0, 0), (.iconst 3, 0, 0, 0, 3, 0), (.iload_n 2, 0, 0, 0, 0, 0), (.imul, 0, 0, 0, 0, 0), (.iconst 2, 0, 0, 0, 2, 0), (.iadd, 0, 0, 0, 0, 0), (.laload, 0, 0, 0, 0, 0)] (by decide +kernel) rfl rfl ⟨trivial, trivial, rfl, trivial, trivial, trivial, trivial, trivial, ⟨_, rfl, vp_in_iff.mpr b23⟩, trivial⟩ ?_
                    refine q_lc_ne (off := 7) (tgt := 317) (by decide +kernel) (by decide +kernel) (by decide) (fun c309_10 => ?_) (fun c309_10 => ?_)
                    · rw [if_neg c309_10] at h
                      refine q_pick [] rfl ?_
                      exact t_X10_check_317 h
                    · rw [if_pos c309_10] at h
                      refine q_blk2 (pc2 := 314) (ls2 := [(19, .long (((((z20.2 128 12) * (Int32.toInt64 l4)) * (Int32.toInt64 l4)) + (((z20.2 128 13) * (Int32.toInt64 l4)) * (Int32.toInt64 l6))) + (((z20.2 128 14) * (Int32.toInt64 l6)) * (Int32.toInt64 l6)))), (17, .long (((((2 * (z20.2 128 12)) * (Int32.toInt64 l3)) * (Int32.toInt64 l4)) + ((z20.2 128 13) * (((Int32.toInt64 l3) * (Int32.toInt64 l6)) + ((Int32.toInt64 l4) * (Int32.toInt64 l5))))) + (((2 * (z20.2 128 14)) * (Int32.toInt64 l5)) * (Int32.toInt64 l6)))), (15, .long (((((z20.2 128 12) * (Int32.toInt64 l3)) * (Int32.toInt64 l3)) + (((z20.2 128 13) * (Int32.toInt64 l3)) * (Int32.toInt64 l5))) + (((z20.2 128 14) * (Int32.toInt64 l5)) * (Int32.toInt64 l5)))), (13, .long (Int32.toInt64 l6)), (11, .long (Int32.toInt64 l5)), (9, .long (Int32.toInt64 l4)), (7, .long (Int32.toInt64 l3)), (0, .ref 128), (1, .int l1), (2, .int l2), (3, .int l3), (4, .int l4), (5, .int l5), (6, .int l6)]) (st2 := [.int 1]) (h2 := (q_K0, z20.1, z20.2, q_R0)) [(.iconst 1, 0, 0, 0, 1, 0)] (by decide +kernel) rfl rfl ⟨trivial, trivial⟩ ?_
                      refine q_goto (off := 4) (tgt := 318) (by decide +kernel) (by decide) ?_
                      cases h
                      exact q_iret .int rfl rfl (by decide +kernel)
              · rw [if_neg c111_7] at h
                refine q_blk2 (pc2 := 118) (ls2 := [(0, .ref 128), (1, .int l1), (2, .int l2), (3, .int l3), (4, .int l4), (5, .int l5), (6, .int l6)]) (st2 := [.int 7, .ref 128]) (h2 := (q_K0, z18.1, z18.2, q_R0)) [(.aload_n 0, 0, 0, 0, 0, 0), (.bipush 7, 0, 0, 0, 7, 0)] (by decide +kernel) rfl rfl ⟨trivial, trivial, trivial⟩ ?_
                obtain ⟨⟨r24, z25⟩, hc33, h⟩ := Option.bind_eq_some_iff.mp h
                dsimp only at h
                refine q_cV1 (idx := 152) (v := .int r24) (h1 := (q_K0, z25.1, z25.2, q_R0)) [.int 7, .ref 128] 98 128 9 [.int 7] [] rfl (by decide +kernel) (by decide +kernel) rfl (Nat.le_of_ble_eq_true rfl) rfl (by decide) (by decide +kernel) (by decide +kernel) (s_X10_no hc33) ?_
                cases h
                exact q_iret .int rfl rfl (by decide +kernel)
            · rw [if_pos c87_6] at h
              refine q_pick [0] rfl ?_
              exact t_X10_check_90 h
    · rw [if_pos c18_2] at h
      refine q_pick [0] rfl ?_
      exact t_X10_check_21 h
/-- RootFormsModel.isClass(I)Z -/
def F_X10_isClass (z : q_Z) (l1 : Int32) : Option (Int32 × q_Z) :=
  (F_X10_in z (Int32.toInt64 l1) 0 (Int32.toInt64 ((z.1 128 23) - 1))).bind fun (r1, z2) =>
    if r1 = (0 : Int32) ∨ r1 = (1 : Int32) then
      some (r1, z2)
    else none
set_option maxRecDepth 100000 in
set_option maxHeartbeats 4000000 in
theorem s_X10_isClass {z zR : q_Z} {l1 : Int32} {rv : Int32} (h : F_X10_isClass z l1 = some (rv, zR)) : q_Ca 127 [.ref 128, .int l1] (q_K0, z.1, z.2, q_R0) (some (.int rv)) (q_K0, zR.1, zR.2, q_R0) := by
  refine q_Ca_of (by decide) (Nat.le_of_ble_eq_true rfl) ?_
  show q_Ex none 127 0 [(0, .ref 128), (1, .int l1)] [] (q_K0, z.1, z.2, q_R0) _ _
  unfold F_X10_isClass at h
  refine q_blk2 (pc2 := 11) (ls2 := [(0, .ref 128), (1, .int l1)]) (st2 := [.long (Int32.toInt64 ((z.1 128 23) - 1)), .long 0, .long (Int32.toInt64 l1), .ref 128]) (h2 := (q_K0, z.1, z.2, q_R0)) [(.aload_n 0, 0, 0, 0, 0, 0), (.iload_n 1, 0, 0, 0, 0, 0), (.i2l, 0, 0, 0, 0, 0), (.lconst 0, 0, 0, 0, 0, 0), (.aload_n 0, 0, 0, 0, 0, 0), (.getfield 123, 0, 9, 23, 0, 0), (.iconst 1, 0, 0, 0, 1, 0), (.isub, 0, 0, 0, 0, 0), (.i2l, 0, 0, 0, 0, 0)] (by decide +kernel) rfl rfl ⟨trivial, trivial, trivial, trivial, trivial, rfl, trivial, trivial, trivial, trivial⟩ ?_
  obtain ⟨⟨r1, z2⟩, hc4, h⟩ := Option.bind_eq_some_iff.mp h
  dsimp only at h
  refine q_cV1 (idx := 138) (v := .int r1) (h1 := (q_K0, z2.1, z2.2, q_R0)) [.long (Int32.toInt64 ((z.1 128 23) - 1)), .long 0, .long (Int32.toInt64 l1), .ref 128] 99 128 9 [.long (Int32.toInt64 l1), .long 0, .long (Int32.toInt64 ((z.1 128 23) - 1))] [] rfl (by decide +kernel) (by decide +kernel) rfl (Nat.le_of_ble_eq_true rfl) rfl (by decide) (by decide +kernel) (by decide +kernel) (s_X10_in hc4) ?_
  have b3 : r1 = (0 : Int32) ∨ r1 = (1 : Int32) := by
    by_cases q : r1 = (0 : Int32) ∨ r1 = (1 : Int32)
    · exact q
    · rw [if_neg q] at h; cases h
  rw [if_pos b3] at h
  cases h
  exact q_iret .boolean rfl (q_bo_n b3) (by decide +kernel)
/-- RootFormsModel.classes()I -/
def F_X10_classes (z : q_Z) : Option (Int32 × q_Z) :=
  some (z.1 128 23, (q_u2 z.1 128 3 0, z.2))
set_option maxRecDepth 100000 in
set_option maxHeartbeats 4000000 in
theorem s_X10_classes {z zR : q_Z} {rv : Int32} (h : F_X10_classes z = some (rv, zR)) : q_Ca 128 [.ref 128] (q_K0, z.1, z.2, q_R0) (some (.int rv)) (q_K0, zR.1, zR.2, q_R0) := by
  refine q_Ca_of (by decide) (Nat.le_of_ble_eq_true rfl) ?_
  show q_Ex none 128 0 [(0, .ref 128)] [] (q_K0, z.1, z.2, q_R0) _ _
  unfold F_X10_classes at h
  refine q_blk2 (pc2 := 9) (ls2 := [(0, .ref 128)]) (st2 := [.int (z.1 128 23)]) (h2 := (q_K0, q_u2 z.1 128 3 0, z.2, q_R0)) [(.aload_n 0, 0, 0, 0, 0, 0), (.iconst 0, 0, 0, 0, 0, 0), (.putfield 57, 0, 9, 3, 0, 0), (.aload_n 0, 0, 0, 0, 0, 0), (.getfield 123, 0, 9, 23, 0, 0)] (by decide +kernel) rfl rfl ⟨trivial, trivial, ⟨rfl, rfl, rfl⟩, trivial, rfl, trivial⟩ ?_
  cases h
  exact q_iret .int rfl rfl (by decide +kernel)
def T_X10_head_26 (z : q_Z) : Option (Int32 × q_Z) :=
  some (0, z)
set_option maxRecDepth 100000 in
set_option maxHeartbeats 4000000 in
theorem t_X10_head_26 {z zR : q_Z} {rv : Int32} (h : T_X10_head_26 z = some (rv, zR)) : q_Ex none 129 26 [] [] (q_K0, z.1, z.2, q_R0) (some (.int rv)) (q_K0, zR.1, zR.2, q_R0) := by
  unfold T_X10_head_26 at h
  refine q_blk2 (pc2 := 27) (ls2 := []) (st2 := [.int 0]) (h2 := (q_K0, z.1, z.2, q_R0)) [(.iconst 0, 0, 0, 0, 0, 0)] (by decide +kernel) rfl rfl ⟨trivial, trivial⟩ ?_
  cases h
  exact q_iret .int rfl rfl (by decide +kernel)
/-- RootFormsModel.head(II)I -/
def F_X10_head (z : q_Z) (l1 : Int32) (l2 : Int32) : Option (Int32 × q_Z) :=
  (F_X10_isClass (q_u2 z.1 128 3 0, z.2) l1).bind fun (r1, z2) =>
    if r1 = (0 : Int32) then
      T_X10_head_26 z2
    else
      (F_X10_in z2 (Int32.toInt64 l2) 0 2).bind fun (r3, z4) =>
        if r3 = (0 : Int32) then
          T_X10_head_26 z4
        else
          if 0 ≤ Int32.toInt l1 ∧ Int32.toInt l1 < 1000 then
            (F_X10_isForm z4 (Int32.toInt64 (z4.1 137 (Int32.toNatClampNeg l1))) (Int32.toInt64 (z4.1 138 (Int32.toNatClampNeg l1)))).bind fun (r6, z7) =>
              if l2 = (0 : Int32) then
                some (Int64.toInt32 (z7.2 128 12), z7)
              else
                if l2 = (1 : Int32) then
                  some (Int64.toInt32 (z7.2 128 13), z7)
                else
                  some (Int64.toInt32 (z7.2 128 14), z7)
          else none
set_option maxRecDepth 100000 in
set_option maxHeartbeats 4000000 in
theorem s_X10_head {z zR : q_Z} {l1 : Int32} {l2 : Int32} {rv : Int32} (h : F_X10_head z l1 l2 = some (rv, zR)) : q_Ca 129 [.ref 128, .int l1, .int l2] (q_K0, z.1, z.2, q_R0) (some (.int rv)) (q_K0, zR.1, zR.2, q_R0) := by
  refine q_Ca_of (by decide) (Nat.le_of_ble_eq_true rfl) ?_
  show q_Ex none 129 0 [(0, .ref 128), (1, .int l1), (2, .int l2)] [] (q_K0, z.1, z.2, q_R0) _ _
  unfold F_X10_head at h
  refine q_blk2 (pc2 := 7) (ls2 := [(0, .ref 128), (1, .int l1), (2, .int l2)]) (st2 := [.int l1, .ref 128]) (h2 := (q_K0, q_u2 z.1 128 3 0, z.2, q_R0)) [(.aload_n 0, 0, 0, 0, 0, 0), (.iconst 0, 0, 0, 0, 0, 0), (.putfield 57, 0, 9, 3, 0, 0), (.aload_n 0, 0, 0, 0, 0, 0), (.iload_n 1, 0, 0, 0, 0, 0)] (by decide +kernel) rfl rfl ⟨trivial, trivial, ⟨rfl, rfl, rfl⟩, trivial, trivial, trivial⟩ ?_
  obtain ⟨⟨r1, z2⟩, hc8, h⟩ := Option.bind_eq_some_iff.mp h
  dsimp only at h
  refine q_cV1 (idx := 180) (v := .int r1) (h1 := (q_K0, z2.1, z2.2, q_R0)) [.int l1, .ref 128] 127 128 9 [.int l1] [] rfl (by decide +kernel) (by decide +kernel) rfl (Nat.le_of_ble_eq_true rfl) rfl (by decide) (by decide +kernel) (by decide +kernel) (s_X10_isClass hc8) ?_
  refine q_if_eq (off := 16) (tgt := 26) (by decide +kernel) (by decide) (fun c10_1 => ?_) (fun c10_1 => ?_)
  · rw [if_pos c10_1] at h
    refine q_pick [] rfl ?_
    exact t_X10_head_26 h
  · rw [if_neg c10_1] at h
    refine q_blk2 (pc2 := 20) (ls2 := [(0, .ref 128), (1, .int l1), (2, .int l2)]) (st2 := [.long 2, .long 0, .long (Int32.toInt64 l2), .ref 128]) (h2 := (q_K0, z2.1, z2.2, q_R0)) [(.aload_n 0, 0, 0, 0, 0, 0), (.iload_n 2, 0, 0, 0, 0, 0), (.i2l, 0, 0, 0, 0, 0), (.lconst 0, 0, 0, 0, 0, 0), (.ldc2_w 70, 0, 0, 0, 0, 2)] (by decide +kernel) rfl rfl ⟨trivial, trivial, trivial, trivial, trivial, trivial⟩ ?_
    obtain ⟨⟨r3, z4⟩, hc9, h⟩ := Option.bind_eq_some_iff.mp h
    dsimp only at h
    refine q_cV1 (idx := 138) (v := .int r3) (h1 := (q_K0, z4.1, z4.2, q_R0)) [.long 2, .long 0, .long (Int32.toInt64 l2), .ref 128] 99 128 9 [.long (Int32.toInt64 l2), .long 0, .long 2] [] rfl (by decide +kernel) (by decide +kernel) rfl (Nat.le_of_ble_eq_true rfl) rfl (by decide) (by decide +kernel) (by decide +kernel) (s_X10_in hc9) ?_
    refine q_if_ne (off := 5) (tgt := 28) (by decide +kernel) (by decide) (fun c23_2 => ?_) (fun c23_2 => ?_)
    · rw [if_neg c23_2] at h
      have b5 : 0 ≤ Int32.toInt l1 ∧ Int32.toInt l1 < 1000 := by
        by_cases q : 0 ≤ Int32.toInt l1 ∧ Int32.toInt l1 < 1000
        · exact q
        · rw [if_neg q] at h; cases h
      rw [if_pos b5] at h
      refine q_blk2 (pc2 := 43) (ls2 := [(0, .ref 128), (1, .int l1), (2, .int l2)]) (st2 := [.long (Int32.toInt64 (z4.1 138 (Int32.toNatClampNeg l1))), .long (Int32.toInt64 (z4.1 137 (Int32.toNatClampNeg l1))), .ref 128]) (h2 := (q_K0, z4.1, z4.2, q_R0)) [(.aload_n 0, 0, 0, 0, 0, 0), (.aload_n 0, 0, 0, 0, 0, 0), (.getfield 35, 0, 9, 24, 0, 0), (.iload_n 1, 0, 0, 0, 0, 0), (.iaload, 0, 0, 0, 0, 0), (.i2l, 0, 0, 0, 0, 0), (.aload_n 0, 0, 0, 0, 0, 0), (.getfield 38, 0, 9, 25, 0, 0), (.iload_n 1, 0, 0, 0, 0, 0), (.iaload, 0, 0, 0, 0, 0), (.i2l, 0, 0, 0, 0, 0)] (by decide +kernel) rfl rfl ⟨trivial, trivial, rfl, trivial, ⟨_, rfl, vp_in_iff.mpr b5⟩, trivial, trivial, rfl, trivial, ⟨_, rfl, vp_in_iff.mpr b5⟩, trivial, trivial⟩ ?_
      obtain ⟨⟨r6, z7⟩, hc10, h⟩ := Option.bind_eq_some_iff.mp h
      dsimp only at h
      refine q_cV1 (idx := 119) (v := .int r6) (h1 := (q_K0, z7.1, z7.2, q_R0)) [.long (Int32.toInt64 (z4.1 138 (Int32.toNatClampNeg l1))), .long (Int32.toInt64 (z4.1 137 (Int32.toNatClampNeg l1))), .ref 128] 105 128 9 [.long (Int32.toInt64 (z4.1 137 (Int32.toNatClampNeg l1))), .long (Int32.toInt64 (z4.1 138 (Int32.toNatClampNeg l1)))] [] rfl (by decide +kernel) (by decide +kernel) rfl (Nat.le_of_ble_eq_true rfl) rfl (by decide) (by decide +kernel) (by decide +kernel) (s_X10_isForm hc10) ?_
      refine q_blk2 (pc2 := 48) (ls2 := [(3, .int r6), (0, .ref 128), (1, .int l1), (2, .int l2)]) (st2 := [.int l2]) (h2 := (q_K0, z7.1, z7.2, q_R0)) [(.istore_n 3, 0, 0, 0, 0, 0), (.iload_n 2, 0, 0, 0, 0, 0)] (by decide +kernel) rfl rfl ⟨trivial, trivial, trivial⟩ ?_
      refine q_if_ne (off := 11) (tgt := 59) (by decide +kernel) (by decide) (fun c48_3 => ?_) (fun c48_3 => ?_)
      · rw [if_neg c48_3] at h
        refine q_blk2 (pc2 := 61) (ls2 := [(3, .int r6), (0, .ref 128), (1, .int l1), (2, .int l2)]) (st2 := [.int 1, .int l2]) (h2 := (q_K0, z7.1, z7.2, q_R0)) [(.iload_n 2, 0, 0, 0, 0, 0), (.iconst 1, 0, 0, 0, 1, 0)] (by decide +kernel) rfl rfl ⟨trivial, trivial, trivial⟩ ?_
        refine q_ic_ne (off := 11) (tgt := 72) (by decide +kernel) (by decide) (fun c61_4 => ?_) (fun c61_4 => ?_)
        · rw [if_neg c61_4] at h
          refine q_blk2 (pc2 := 77) (ls2 := [(3, .int r6), (0, .ref 128), (1, .int l1), (2, .int l2)]) (st2 := [.int (Int64.toInt32 (z7.2 128 14))]) (h2 := (q_K0, z7.1, z7.2, q_R0)) [(.aload_n 0, 0, 0, 0, 0, 0), (.getfield 79, 0, 9, 14, 0, 0), (.l2i, 0, 0, 0, 0, 0)] (by decide +kernel) rfl rfl ⟨trivial, rfl, trivial, trivial⟩ ?_
          cases h
          exact q_iret .int rfl rfl (by decide +kernel)
        · rw [if_pos c61_4] at h
          refine q_blk2 (pc2 := 69) (ls2 := [(3, .int r6), (0, .ref 128), (1, .int l1), (2, .int l2)]) (st2 := [.int (Int64.toInt32 (z7.2 128 13))]) (h2 := (q_K0, z7.1, z7.2, q_R0)) [(.aload_n 0, 0, 0, 0, 0, 0), (.getfield 76, 0, 9, 13, 0, 0), (.l2i, 0, 0, 0, 0, 0)] (by decide +kernel) rfl rfl ⟨trivial, rfl, trivial, trivial⟩ ?_
          refine q_goto (off := 8) (tgt := 77) (by decide +kernel) (by decide) ?_
          cases h
          exact q_iret .int rfl rfl (by decide +kernel)
      · rw [if_pos c48_3] at h
        refine q_blk2 (pc2 := 56) (ls2 := [(3, .int r6), (0, .ref 128), (1, .int l1), (2, .int l2)]) (st2 := [.int (Int64.toInt32 (z7.2 128 12))]) (h2 := (q_K0, z7.1, z7.2, q_R0)) [(.aload_n 0, 0, 0, 0, 0, 0), (.getfield 72, 0, 9, 12, 0, 0), (.l2i, 0, 0, 0, 0, 0)] (by decide +kernel) rfl rfl ⟨trivial, rfl, trivial, trivial⟩ ?_
        refine q_goto (off := 21) (tgt := 77) (by decide +kernel) (by decide) ?_
        cases h
        exact q_iret .int rfl rfl (by decide +kernel)
    · rw [if_pos c23_2] at h
      refine q_pick [] rfl ?_
      exact t_X10_head_26 h
def T_X10_oneOf_16 (z : q_Z) (t0 : Int64) (t1 : Int64) : Option (Int32 × q_Z) :=
  (F_X10_isForm z t1 t0).bind fun (r1, z2) =>
    (F_X10_classHere z2).bind fun (r3, z4) =>
      some (r3, z4)
set_option maxRecDepth 100000 in
set_option maxHeartbeats 4000000 in
theorem t_X10_oneOf_16 {z zR : q_Z} {t0 : Int64} {t1 : Int64} {rv : Int32} (h : T_X10_oneOf_16 z t0 t1 = some (rv, zR)) : q_Ex none 130 16 [(0, .ref 128)] [.long t0, .long t1, .ref 128] (q_K0, z.1, z.2, q_R0) (some (.int rv)) (q_K0, zR.1, zR.2, q_R0) := by
  unfold T_X10_oneOf_16 at h
  obtain ⟨⟨r1, z2⟩, hc5, h⟩ := Option.bind_eq_some_iff.mp h
  dsimp only at h
  refine q_cV1 (idx := 119) (v := .int r1) (h1 := (q_K0, z2.1, z2.2, q_R0)) [.long t0, .long t1, .ref 128] 105 128 9 [.long t1, .long t0] [] rfl (by decide +kernel) (by decide +kernel) rfl (Nat.le_of_ble_eq_true rfl) rfl (by decide) (by decide +kernel) (by decide +kernel) (s_X10_isForm hc5) ?_
  refine q_blk2 (pc2 := 21) (ls2 := [(1, .int r1), (0, .ref 128)]) (st2 := [.ref 128]) (h2 := (q_K0, z2.1, z2.2, q_R0)) [(.istore_n 1, 0, 0, 0, 0, 0), (.aload_n 0, 0, 0, 0, 0, 0)] (by decide +kernel) rfl rfl ⟨trivial, trivial, trivial⟩ ?_
  obtain ⟨⟨r3, z4⟩, hc6, h⟩ := Option.bind_eq_some_iff.mp h
  dsimp only at h
  refine q_cV1 (idx := 177) (v := .int r3) (h1 := (q_K0, z4.1, z4.2, q_R0)) [.ref 128] 112 128 9 [] [] rfl (by decide +kernel) (by decide +kernel) rfl (Nat.le_of_ble_eq_true rfl) rfl (by decide) (by decide +kernel) (by decide +kernel) (s_X10_classHere hc6) ?_
  cases h
  exact q_iret .int rfl rfl (by decide +kernel)
/-- RootFormsModel.oneOf()I -/
def F_X10_oneOf (z : q_Z) : Option (Int32 × q_Z) :=
  if ((z.1 128 0) - (z.1 128 0) / 2 * 2) = (0 : Int32) then
    T_X10_oneOf_16 z 0 1
  else
    T_X10_oneOf_16 z 1 1
set_option maxRecDepth 100000 in
set_option maxHeartbeats 4000000 in
theorem s_X10_oneOf {z zR : q_Z} {rv : Int32} (h : F_X10_oneOf z = some (rv, zR)) : q_Ca 130 [.ref 128] (q_K0, z.1, z.2, q_R0) (some (.int rv)) (q_K0, zR.1, zR.2, q_R0) := by
  refine q_Ca_of (by decide) (Nat.le_of_ble_eq_true rfl) ?_
  show q_Ex none 130 0 [(0, .ref 128)] [] (q_K0, z.1, z.2, q_R0) _ _
  unfold F_X10_oneOf at h
  refine q_blk2 (pc2 := 8) (ls2 := [(0, .ref 128)]) (st2 := [.int ((z.1 128 0) - (z.1 128 0) / 2 * 2), .long 1, .ref 128]) (h2 := (q_K0, z.1, z.2, q_R0)) [(.aload_n 0, 0, 0, 0, 0, 0), (.lconst 1, 0, 0, 0, 0, 1), (.aload_n 0, 0, 0, 0, 0, 0), (.getfield 82, 0, 9, 0, 0, 0), (.iconst 2, 0, 0, 0, 2, 0), (.irem, 0, 0, 0, 0, 0)] (by decide +kernel) rfl rfl ⟨trivial, trivial, trivial, rfl, trivial, (by decide), trivial⟩ ?_
  refine q_if_ne (off := 7) (tgt := 15) (by decide +kernel) (by decide) (fun c8_1 => ?_) (fun c8_1 => ?_)
  · rw [if_neg c8_1] at h
    refine q_blk2 (pc2 := 16) (ls2 := [(0, .ref 128)]) (st2 := [.long 1, .long 1, .ref 128]) (h2 := (q_K0, z.1, z.2, q_R0)) [(.lconst 1, 0, 0, 0, 0, 1)] (by decide +kernel) rfl rfl ⟨trivial, trivial⟩ ?_
    refine q_pick [0] rfl ?_
    exact t_X10_oneOf_16 h
  · rw [if_pos c8_1] at h
    refine q_blk2 (pc2 := 12) (ls2 := [(0, .ref 128)]) (st2 := [.long 0, .long 1, .ref 128]) (h2 := (q_K0, z.1, z.2, q_R0)) [(.lconst 0, 0, 0, 0, 0, 0)] (by decide +kernel) rfl rfl ⟨trivial, trivial⟩ ?_
    refine q_goto (off := 4) (tgt := 16) (by decide +kernel) (by decide) ?_
    refine q_pick [0] rfl ?_
    exact t_X10_oneOf_16 h
/-- RootFormsModel.one()I -/
def F_X10_one (z : q_Z) : Option (Int32 × q_Z) :=
  (F_X10_oneOf (q_u2 z.1 128 3 0, z.2)).bind fun (r1, z2) =>
    some (r1, z2)
set_option maxRecDepth 100000 in
set_option maxHeartbeats 4000000 in
theorem s_X10_one {z zR : q_Z} {rv : Int32} (h : F_X10_one z = some (rv, zR)) : q_Ca 131 [.ref 128] (q_K0, z.1, z.2, q_R0) (some (.int rv)) (q_K0, zR.1, zR.2, q_R0) := by
  refine q_Ca_of (by decide) (Nat.le_of_ble_eq_true rfl) ?_
  show q_Ex none 131 0 [(0, .ref 128)] [] (q_K0, z.1, z.2, q_R0) _ _
  unfold F_X10_one at h
  refine q_blk2 (pc2 := 6) (ls2 := [(0, .ref 128)]) (st2 := [.ref 128]) (h2 := (q_K0, q_u2 z.1 128 3 0, z.2, q_R0)) [(.aload_n 0, 0, 0, 0, 0, 0), (.iconst 0, 0, 0, 0, 0, 0), (.putfield 57, 0, 9, 3, 0, 0), (.aload_n 0, 0, 0, 0, 0, 0)] (by decide +kernel) rfl rfl ⟨trivial, trivial, ⟨rfl, rfl, rfl⟩, trivial, trivial⟩ ?_
  obtain ⟨⟨r1, z2⟩, hc3, h⟩ := Option.bind_eq_some_iff.mp h
  dsimp only at h
  refine q_cV1 (idx := 183) (v := .int r1) (h1 := (q_K0, z2.1, z2.2, q_R0)) [.ref 128] 130 128 9 [] [] rfl (by decide +kernel) (by decide +kernel) rfl (Nat.le_of_ble_eq_true rfl) rfl (by decide) (by decide +kernel) (by decide +kernel) (s_X10_oneOf hc3) ?_
  cases h
  exact q_iret .int rfl rfl (by decide +kernel)
def B_X10_common_18 : Int64 × Int64 × Int64 × Int64 × Int64 × Int64 × q_Z → Option ((Int64 × Int64 × Int64 × Int64 × Int64 × Int64 × q_Z) × Nat) := fun (l5, l7, l9, l11, l13, l15, z) =>
  if l7 = (0 : Int64) then
    some ((l5, l7, l9, l11, l13, l15, z), 1)
  else
    if ¬ l7 = (0 : Int64) then
      some ((l7, l5 - ((l5 / l7) * l7), l13, l15, l9 - ((l5 / l7) * l13), l11 - ((l5 / l7) * l15), z), 0)
    else none
set_option maxRecDepth 100000 in
set_option maxHeartbeats 4000000 in
theorem b_X10_common_18 {s s2 : Int64 × Int64 × Int64 × Int64 × Int64 × Int64 × q_Z} {t : Nat} {r : Option Value} {h2 : q_H} (h : B_X10_common_18 s = some (s2, t)) (k0 : t = 0 → q_Ex none 132 18 [(0, .ref 128), (5, .long s2.1), (7, .long s2.2.1), (9, .long s2.2.2.1), (11, .long s2.2.2.2.1), (13, .long s2.2.2.2.2.1), (15, .long s2.2.2.2.2.2.1)] [] (q_K0, s2.2.2.2.2.2.2.1, s2.2.2.2.2.2.2.2, q_R0) r h2) (k1 : t = 1 → q_Ex none 132 89 [(0, .ref 128), (5, .long s2.1), (7, .long s2.2.1), (9, .long s2.2.2.1), (11, .long s2.2.2.2.1), (13, .long s2.2.2.2.2.1), (15, .long s2.2.2.2.2.2.1)] [] (q_K0, s2.2.2.2.2.2.2.1, s2.2.2.2.2.2.2.2, q_R0) r h2) : q_Ex none 132 18 [(0, .ref 128), (5, .long s.1), (7, .long s.2.1), (9, .long s.2.2.1), (11, .long s.2.2.2.1), (13, .long s.2.2.2.2.1), (15, .long s.2.2.2.2.2.1)] [] (q_K0, s.2.2.2.2.2.2.1, s.2.2.2.2.2.2.2, q_R0) r h2 := by
  unfold B_X10_common_18 at h
  obtain ⟨l5, l7, l9, l11, l13, l15, z⟩ := s
  dsimp only at h
  show q_Ex none 132 18 [(0, .ref 128), (5, .long l5), (7, .long l7), (9, .long l9), (11, .long l11), (13, .long l13), (15, .long l15)] [] (q_K0, z.1, z.2, q_R0) r h2
  refine q_blk2 (pc2 := 21) (ls2 := [(0, .ref 128), (5, .long l5), (7, .long l7), (9, .long l9), (11, .long l11), (13, .long l13), (15, .long l15)]) (st2 := [.long 0, .long l7]) (h2 := (q_K0, z.1, z.2, q_R0)) [(.lload 7, 0, 0, 0, 0, 0), (.lconst 0, 0, 0, 0, 0, 0)] (by decide +kernel) rfl rfl ⟨trivial, trivial, trivial⟩ ?_
  refine q_lc_eq (off := 67) (tgt := 89) (by decide +kernel) (by decide +kernel) (by decide) (fun c21_1 => ?_) (fun c21_1 => ?_)
  · rw [if_pos c21_1] at h
    cases h
    refine q_pick [0, 1, 2, 3, 4, 5, 6] rfl ?_
    exact k1 rfl
  · rw [if_neg c21_1] at h
    have b1 : ¬ l7 = (0 : Int64) := by
      by_cases q : ¬ l7 = (0 : Int64)
      · exact q
      · rw [if_neg q] at h; cases h
    rw [if_pos b1] at h
    refine q_blk2 (pc2 := 86) (ls2 := [(15, .long (l11 - ((l5 / l7) * l15))), (11, .long l15), (19, .long (l11 - ((l5 / l7) * l15))), (13, .long (l9 - ((l5 / l7) * l13))), (9, .long l13), (7, .long (l5 - ((l5 / l7) * l7))), (5, .long l7), (17, .long (l5 / l7)), (0, .ref 128)]) (st2 := []) (h2 := (q_K0, z.1, z.2, q_R0)) [(.lload 5, 0, 0, 0, 0, 0), (.lload 7, 0, 0, 0, 0, 0), (.ldiv, 0, 0, 0, 0, 0), (.lstore 17, 0, 0, 0, 0, 0), (.lload 5, 0, 0, 0, 0, 0), (.lload 17, 0, 0, 0, 0, 0), (.lload 7, 0, 0, 0, 0, 0), (.lmul, 0, 0, 0, 0, 0), (.lsub, 0, 0, 0, 0, 0), (.lstore 19, 0, 0, 0, 0, 0), (.lload 7, 0, 0, 0, 0, 0), (.lstore 5, 0, 0, 0, 0, 0), (.lload 19, 0, 0, 0, 0, 0), (.lstore 7, 0, 0, 0, 0, 0), (.lload 9, 0, 0, 0, 0, 0), (.lload 17, 0, 0, 0, 0, 0), (.lload 13, 0, 0, 0, 0, 0), (.lmul, 0, 0, 0, 0, 0), (.lsub, 0, 0, 0, 0, 0), (.lstore 19, 0, 0, 0, 0, 0), (.lload 13, 0, 0, 0, 0, 0), (.lstore 9, 0, 0, 0, 0, 0), (.lload 19, 0, 0, 0, 0, 0), (.lstore 13, 0, 0, 0, 0, 0), (.lload 11, 0, 0, 0, 0, 0), (.lload 17, 0, 0, 0, 0, 0), (.lload 15, 0, 0, 0, 0, 0), (.lmul, 0, 0, 0, 0, 0), (.lsub, 0, 0, 0, 0, 0), (.lstore 19, 0, 0, 0, 0, 0), (.lload 15, 0, 0, 0, 0, 0), (.lstore 11, 0, 0, 0, 0, 0), (.lload 19, 0, 0, 0, 0, 0), (.lstore 15, 0, 0, 0, 0, 0)] (by decide +kernel) rfl rfl ⟨trivial, trivial, b1, trivial, trivial, trivial, trivial, trivial, trivial, trivial, trivial, trivial, trivial, trivial, trivial, trivial, trivial, trivial, trivial, trivial, trivial, trivial, trivial, trivial, trivial, trivial, trivial, trivial, trivial, trivial, trivial, trivial, trivial, trivial, trivial⟩ ?_
    refine q_goto (off := -68) (tgt := 18) (by decide +kernel) (by decide) ?_
    cases h
    refine q_pick [8, 6, 5, 4, 1, 3, 0] rfl ?_
    exact k0 rfl
def T_X10_common_143 (z : q_Z) (t0 : Int64) : Option (Unit × q_Z) :=
  some ((), (z.1, q_u2 z.2 128 28 t0))
set_option maxRecDepth 100000 in
set_option maxHeartbeats 4000000 in
theorem t_X10_common_143 {z zR : q_Z} {t0 : Int64} {rv : Unit} (h : T_X10_common_143 z t0 = some (rv, zR)) : q_Ex none 132 143 [] [.long t0, .ref 128] (q_K0, z.1, z.2, q_R0) none (q_K0, zR.1, zR.2, q_R0) := by
  unfold T_X10_common_143 at h
  refine q_blk2 (pc2 := 146) (ls2 := []) (st2 := []) (h2 := (q_K0, z.1, q_u2 z.2 128 28 t0, q_R0)) [(.putfield 192, 0, 9, 28, 0, 0)] (by decide +kernel) rfl rfl ⟨rfl, trivial⟩ ?_
  cases h
  exact q_vret rfl (by decide +kernel)
def T_X10_common_124 (z : q_Z) (l5 : Int64) (l11 : Int64) (t0 : Int64) : Option (Unit × q_Z) :=
  if (0 : Int64) ≤ l5 then
    T_X10_common_143 (z.1, q_u2 z.2 128 27 t0) l11
  else
    T_X10_common_143 (z.1, q_u2 z.2 128 27 t0) (-l11)
set_option maxRecDepth 100000 in
set_option maxHeartbeats 4000000 in
theorem t_X10_common_124 {z zR : q_Z} {l5 : Int64} {l11 : Int64} {t0 : Int64} {rv : Unit} (h : T_X10_common_124 z l5 l11 t0 = some (rv, zR)) : q_Ex none 132 124 [(0, .ref 128), (5, .long l5), (11, .long l11)] [.long t0, .ref 128] (q_K0, z.1, z.2, q_R0) none (q_K0, zR.1, zR.2, q_R0) := by
  unfold T_X10_common_124 at h
  refine q_blk2 (pc2 := 131) (ls2 := [(0, .ref 128), (5, .long l5), (11, .long l11)]) (st2 := [.long 0, .long l5, .ref 128]) (h2 := (q_K0, z.1, q_u2 z.2 128 27 t0, q_R0)) [(.putfield 189, 0, 9, 27, 0, 0), (.aload_n 0, 0, 0, 0, 0, 0), (.lload 5, 0, 0, 0, 0, 0), (.lconst 0, 0, 0, 0, 0, 0)] (by decide +kernel) rfl rfl ⟨rfl, trivial, trivial, trivial, trivial⟩ ?_
  refine q_lc_ge (off := 9) (tgt := 141) (by decide +kernel) (by decide +kernel) (by decide) (fun c131_1 => ?_) (fun c131_1 => ?_)
  · rw [if_pos c131_1] at h
    refine q_blk2 (pc2 := 143) (ls2 := [(0, .ref 128), (5, .long l5), (11, .long l11)]) (st2 := [.long l11, .ref 128]) (h2 := (q_K0, z.1, q_u2 z.2 128 27 t0, q_R0)) [(.lload 11, 0, 0, 0, 0, 0)] (by decide +kernel) rfl rfl ⟨trivial, trivial⟩ ?_
    refine q_pick [] rfl ?_
    exact t_X10_common_143 h
  · rw [if_neg c131_1] at h
    refine q_blk2 (pc2 := 138) (ls2 := [(0, .ref 128), (5, .long l5), (11, .long l11)]) (st2 := [.long (-l11), .ref 128]) (h2 := (q_K0, z.1, q_u2 z.2 128 27 t0, q_R0)) [(.lload 11, 0, 0, 0, 0, 0), (.lneg, 0, 0, 0, 0, 0)] (by decide +kernel) rfl rfl ⟨trivial, trivial, trivial⟩ ?_
    refine q_goto (off := 5) (tgt := 143) (by decide +kernel) (by decide) ?_
    refine q_pick [] rfl ?_
    exact t_X10_common_143 h
def T_X10_common_105 (z : q_Z) (l5 : Int64) (l9 : Int64) (l11 : Int64) (t0 : Int64) : Option (Unit × q_Z) :=
  if (0 : Int64) ≤ l5 then
    T_X10_common_124 (z.1, q_u2 z.2 128 26 t0) l5 l11 l9
  else
    T_X10_common_124 (z.1, q_u2 z.2 128 26 t0) l5 l11 (-l9)
set_option maxRecDepth 100000 in
set_option maxHeartbeats 4000000 in
theorem t_X10_common_105 {z zR : q_Z} {l5 : Int64} {l9 : Int64} {l11 : Int64} {t0 : Int64} {rv : Unit} (h : T_X10_common_105 z l5 l9 l11 t0 = some (rv, zR)) : q_Ex none 132 105 [(0, .ref 128), (5, .long l5), (9, .long l9), (11, .long l11)] [.long t0, .ref 128] (q_K0, z.1, z.2, q_R0) none (q_K0, zR.1, zR.2, q_R0) := by
  unfold T_X10_common_105 at h
  refine q_blk2 (pc2 := 112) (ls2 := [(0, .ref 128), (5, .long l5), (9, .long l9), (11, .long l11)]) (st2 := [.long 0, .long l5, .ref 128]) (h2 := (q_K0, z.1, q_u2 z.2 128 26 t0, q_R0)) [(.putfield 186, 0, 9, 26, 0, 0), (.aload_n 0, 0, 0, 0, 0, 0), (.lload 5, 0, 0, 0, 0, 0), (.lconst 0, 0, 0, 0, 0, 0)] (by decide +kernel) rfl rfl ⟨rfl, trivial, trivial, trivial, trivial⟩ ?_
  refine q_lc_ge (off := 9) (tgt := 122) (by decide +kernel) (by decide +kernel) (by decide) (fun c112_1 => ?_) (fun c112_1 => ?_)
  · rw [if_pos c112_1] at h
    refine q_blk2 (pc2 := 124) (ls2 := [(0, .ref 128), (5, .long l5), (9, .long l9), (11, .long l11)]) (st2 := [.long l9, .ref 128]) (h2 := (q_K0, z.1, q_u2 z.2 128 26 t0, q_R0)) [(.lload 9, 0, 0, 0, 0, 0)] (by decide +kernel) rfl rfl ⟨trivial, trivial⟩ ?_
    refine q_pick [0, 1, 3] rfl ?_
    exact t_X10_common_124 h
  · rw [if_neg c112_1] at h
    refine q_blk2 (pc2 := 119) (ls2 := [(0, .ref 128), (5, .long l5), (9, .long l9), (11, .long l11)]) (st2 := [.long (-l9), .ref 128]) (h2 := (q_K0, z.1, q_u2 z.2 128 26 t0, q_R0)) [(.lload 9, 0, 0, 0, 0, 0), (.lneg, 0, 0, 0, 0, 0)] (by decide +kernel) rfl rfl ⟨trivial, trivial, trivial⟩ ?_
    refine q_goto (off := 5) (tgt := 124) (by decide +kernel) (by decide) ?_
    refine q_pick [0, 1, 3] rfl ?_
    exact t_X10_common_124 h
/-- RootFormsModel.common(JJ)V -/
def F_X10_common (z : q_Z) (l1 : Int64) (l3 : Int64) : Option (Unit × q_Z) :=
  (q_lp (B_X10_common_18) q_fu (l1, l3, 1, 0, 0, 1, z)).bind fun ((w3, w4, w5, w6, w7, w8, z2), tg) =>
    if tg = 0 then
      if (0 : Int64) ≤ w3 then
        T_X10_common_105 z2 w3 w5 w6 w3
      else
        T_X10_common_105 z2 w3 w5 w6 (-w3)
    else none
set_option maxRecDepth 100000 in
set_option maxHeartbeats 4000000 in
theorem s_X10_common {z zR : q_Z} {l1 : Int64} {l3 : Int64} {rv : Unit} (h : F_X10_common z l1 l3 = some (rv, zR)) : q_Ca 132 [.ref 128, .long l1, .long l3] (q_K0, z.1, z.2, q_R0) none (q_K0, zR.1, zR.2, q_R0) := by
  refine q_Ca_of (by decide) (Nat.le_of_ble_eq_true rfl) ?_
  show q_Ex none 132 0 [(0, .ref 128), (1, .long l1), (3, .long l3)] [] (q_K0, z.1, z.2, q_R0) _ _
  unfold F_X10_common at h
  refine q_blk2 (pc2 := 18) (ls2 := [(15, .long 1), (13, .long 0), (11, .long 0), (9, .long 1), (7, .long l3), (5, .long l1), (0, .ref 128), (1, .long l1), (3, .long l3)]) (st2 := []) (h2 := (q_K0, z.1, z.2, q_R0)) [(.lload_n 1, 0, 0, 0, 0, 0), (.lstore 5, 0, 0, 0, 0, 0), (.lload_n 3, 0, 0, 0, 0, 0), (.lstore 7, 0, 0, 0, 0, 0), (.lconst 1, 0, 0, 0, 0, 1), (.lstore 9, 0, 0, 0, 0, 0), (.lconst 0, 0, 0, 0, 0, 0), (.lstore 11, 0, 0, 0, 0, 0), (.lconst 0, 0, 0, 0, 0, 0), (.lstore 13, 0, 0, 0, 0, 0), (.lconst 1, 0, 0, 0, 0, 1), (.lstore 15, 0, 0, 0, 0, 0)] (by decide +kernel) rfl rfl ⟨trivial, trivial, trivial, trivial, trivial, trivial, trivial, trivial, trivial, trivial, trivial, trivial, trivial⟩ ?_
  obtain ⟨⟨⟨w3, w4, w5, w6, w7, w8, z2⟩, tg10⟩, hl9, h⟩ := Option.bind_eq_some_iff.mp h
  dsimp only at h
  refine q_pick [6, 5, 4, 3, 2, 1, 0] rfl ?_
  refine q_lp_ok (P := fun s => q_Ex _ 132 18 [(0, .ref 128), (5, .long s.1), (7, .long s.2.1), (9, .long s.2.2.1), (11, .long s.2.2.2.1), (13, .long s.2.2.2.2.1), (15, .long s.2.2.2.2.2.1)] [] (q_K0, s.2.2.2.2.2.2.1, s.2.2.2.2.2.2.2, q_R0) _ _) (X := fun u s => (u = 0 → q_Ex _ 132 89 [(0, .ref 128), (5, .long s.1), (7, .long s.2.1), (9, .long s.2.2.1), (11, .long s.2.2.2.1), (13, .long s.2.2.2.2.1), (15, .long s.2.2.2.2.2.1)] [] (q_K0, s.2.2.2.2.2.2.1, s.2.2.2.2.2.2.2, q_R0) _ _)) (fun s s2 t hh k0 kx => b_X10_common_18 hh k0 (fun e => (kx 0 e) rfl)) hl9 ?_
  · intro e_tg10
    subst e_tg10
    rw [if_pos rfl] at h
    show q_Ex _ 132 89 [(0, .ref 128), (5, .long w3), (7, .long w4), (9, .long w5), (11, .long w6), (13, .long w7), (15, .long w8)] [] (q_K0, z2.1, z2.2, q_R0) _ _
    refine q_blk2 (pc2 := 93) (ls2 := [(0, .ref 128), (5, .long w3), (7, .long w4), (9, .long w5), (11, .long w6), (13, .long w7), (15, .long w8)]) (st2 := [.long 0, .long w3, .ref 128]) (h2 := (q_K0, z2.1, z2.2, q_R0)) [(.aload_n 0, 0, 0, 0, 0, 0), (.lload 5, 0, 0, 0, 0, 0), (.lconst 0, 0, 0, 0, 0, 0)] (by decide +kernel) rfl rfl ⟨trivial, trivial, trivial, trivial⟩ ?_
    refine q_lc_ge (off := 9) (tgt := 103) (by decide +kernel) (by decide +kernel) (by decide) (fun c93_1 => ?_) (fun c93_1 => ?_)
    · rw [if_pos c93_1] at h
      refine q_blk2 (pc2 := 105) (ls2 := [(0, .ref 128), (5, .long w3), (7, .long w4), (9, .long w5), (11, .long w6), (13, .long w7), (15, .long w8)]) (st2 := [.long w3, .ref 128]) (h2 := (q_K0, z2.1, z2.2, q_R0)) [(.lload 5, 0, 0, 0, 0, 0)] (by decide +kernel) rfl rfl ⟨trivial, trivial⟩ ?_
      refine q_pick [0, 1, 3, 4] rfl ?_
      exact t_X10_common_105 h
    · rw [if_neg c93_1] at h
      refine q_blk2 (pc2 := 100) (ls2 := [(0, .ref 128), (5, .long w3), (7, .long w4), (9, .long w5), (11, .long w6), (13, .long w7), (15, .long w8)]) (st2 := [.long (-w3), .ref 128]) (h2 := (q_K0, z2.1, z2.2, q_R0)) [(.lload 5, 0, 0, 0, 0, 0), (.lneg, 0, 0, 0, 0, 0)] (by decide +kernel) rfl rfl ⟨trivial, trivial, trivial⟩ ?_
      refine q_goto (off := 5) (tgt := 105) (by decide +kernel) (by decide) ?_
      refine q_pick [0, 1, 3, 4] rfl ?_
      exact t_X10_common_105 h
/-- RootFormsModel.joined(II)I -/
def F_X10_joined (z : q_Z) (l1 : Int32) (l2 : Int32) : Option (Int32 × q_Z) :=
  if 0 ≤ Int32.toInt l1 ∧ Int32.toInt l1 < 1000 then
    if 0 ≤ Int32.toInt l2 ∧ Int32.toInt l2 < 1000 then
      (F_X10_isForm z (Int32.toInt64 (z.1 137 (Int32.toNatClampNeg l2))) (Int32.toInt64 (z.1 138 (Int32.toNatClampNeg l2)))).bind fun (r3, z4) =>
        (F_X10_common z4 (Int32.toInt64 (z.1 137 (Int32.toNatClampNeg l1))) (Int32.toInt64 (z.1 137 (Int32.toNatClampNeg l2)))).bind fun (_, z6) =>
          (F_X10_common z6 (z6.2 128 26) (((Int32.toInt64 (z.1 138 (Int32.toNatClampNeg l1))) + (Int32.toInt64 (z.1 138 (Int32.toNatClampNeg l2)))) / 2)).bind fun (_, z8) =>
            if ¬ (z8.2 128 26) = (0 : Int64) then
              if ¬ ((Int32.toInt64 (z.1 137 (Int32.toNatClampNeg l1))) / (z8.2 128 26)) = (0 : Int64) then
                (F_X10_isForm z8 (((Int32.toInt64 (z.1 137 (Int32.toNatClampNeg l1))) / (z8.2 128 26)) * ((Int32.toInt64 (z.1 137 (Int32.toNatClampNeg l2))) / (z8.2 128 26))) ((Int32.toInt64 (z.1 138 (Int32.toNatClampNeg l2))) + ((2 * ((Int32.toInt64 (z.1 137 (Int32.toNatClampNeg l2))) / (z8.2 128 26))) * ((((((z6.2 128 28) * (z8.2 128 27)) - ((z6.2 128 28) * (z8.2 128 27)) / ((Int32.toInt64 (z.1 137 (Int32.toNatClampNeg l1))) / (z8.2 128 26)) * ((Int32.toInt64 (z.1 137 (Int32.toNatClampNeg l1))) / (z8.2 128 26))) * ((((Int32.toInt64 (z.1 138 (Int32.toNatClampNeg l1))) - (Int32.toInt64 (z.1 138 (Int32.toNatClampNeg l2)))) / 2) - (((Int32.toInt64 (z.1 138 (Int32.toNatClampNeg l1))) - (Int32.toInt64 (z.1 138 (Int32.toNatClampNeg l2)))) / 2) / ((Int32.toInt64 (z.1 137 (Int32.toNatClampNeg l1))) / (z8.2 128 26)) * ((Int32.toInt64 (z.1 137 (Int32.toNatClampNeg l1))) / (z8.2 128 26)))) - (((z8.2 128 28) - (z8.2 128 28) / ((Int32.toInt64 (z.1 137 (Int32.toNatClampNeg l1))) / (z8.2 128 26)) * ((Int32.toInt64 (z.1 137 (Int32.toNatClampNeg l1))) / (z8.2 128 26))) * ((z4.2 128 14) - (z4.2 128 14) / ((Int32.toInt64 (z.1 137 (Int32.toNatClampNeg l1))) / (z8.2 128 26)) * ((Int32.toInt64 (z.1 137 (Int32.toNatClampNeg l1))) / (z8.2 128 26))))) - (((((z6.2 128 28) * (z8.2 128 27)) - ((z6.2 128 28) * (z8.2 128 27)) / ((Int32.toInt64 (z.1 137 (Int32.toNatClampNeg l1))) / (z8.2 128 26)) * ((Int32.toInt64 (z.1 137 (Int32.toNatClampNeg l1))) / (z8.2 128 26))) * ((((Int32.toInt64 (z.1 138 (Int32.toNatClampNeg l1))) - (Int32.toInt64 (z.1 138 (Int32.toNatClampNeg l2)))) / 2) - (((Int32.toInt64 (z.1 138 (Int32.toNatClampNeg l1))) - (Int32.toInt64 (z.1 138 (Int32.toNatClampNeg l2)))) / 2) / ((Int32.toInt64 (z.1 137 (Int32.toNatClampNeg l1))) / (z8.2 128 26)) * ((Int32.toInt64 (z.1 137 (Int32.toNatClampNeg l1))) / (z8.2 128 26)))) - (((z8.2 128 28) - (z8.2 128 28) / ((Int32.toInt64 (z.1 137 (Int32.toNatClampNeg l1))) / (z8.2 128 26)) * ((Int32.toInt64 (z.1 137 (Int32.toNatClampNeg l1))) / (z8.2 128 26))) * ((z4.2 128 14) - (z4.2 128 14) / ((Int32.toInt64 (z.1 137 (Int32.toNatClampNeg l1))) / (z8.2 128 26)) * ((Int32.toInt64 (z.1 137 (Int32.toNatClampNeg l1))) / (z8.2 128 26))))) / ((Int32.toInt64 (z.1 137 (Int32.toNatClampNeg l1))) / (z8.2 128 26)) * ((Int32.toInt64 (z.1 137 (Int32.toNatClampNeg l1))) / (z8.2 128 26)))))).bind fun (r11, z12) =>
                  (F_X10_classHere z12).bind fun (r13, z14) =>
                    some (r13, z14)
              else none
            else none
    else none
  else none
set_option maxRecDepth 100000 in
set_option maxHeartbeats 4000000 in
theorem s_X10_joined {z zR : q_Z} {l1 : Int32} {l2 : Int32} {rv : Int32} (h : F_X10_joined z l1 l2 = some (rv, zR)) : q_Ca 133 [.ref 128, .int l1, .int l2] (q_K0, z.1, z.2, q_R0) (some (.int rv)) (q_K0, zR.1, zR.2, q_R0) := by
  refine q_Ca_of (by decide) (Nat.le_of_ble_eq_true rfl) ?_
  show q_Ex none 133 0 [(0, .ref 128), (1, .int l1), (2, .int l2)] [] (q_K0, z.1, z.2, q_R0) _ _
  unfold F_X10_joined at h
  have b1 : 0 ≤ Int32.toInt l1 ∧ Int32.toInt l1 < 1000 := by
    by_cases q : 0 ≤ Int32.toInt l1 ∧ Int32.toInt l1 < 1000
    · exact q
    · rw [if_neg q] at h; cases h
  rw [if_pos b1] at h
  have b2 : 0 ≤ Int32.toInt l2 ∧ Int32.toInt l2 < 1000 := by
    by_cases q : 0 ≤ Int32.toInt l2 ∧ Int32.toInt l2 < 1000
    · exact q
    · rw [if_neg q] at h; cases h
  rw [if_pos b2] at h
  refine q_blk2 (pc2 := 40) (ls2 := [(9, .long (Int32.toInt64 (z.1 138 (Int32.toNatClampNeg l2)))), (7, .long (Int32.toInt64 (z.1 137 (Int32.toNatClampNeg l2)))), (5, .long (Int32.toInt64 (z.1 138 (Int32.toNatClampNeg l1)))), (3, .long (Int32.toInt64 (z.1 137 (Int32.toNatClampNeg l1)))), (0, .ref 128), (1, .int l1), (2, .int l2)]) (st2 := [.long (Int32.toInt64 (z.1 138 (Int32.toNatClampNeg l2))), .long (Int32.toInt64 (z.1 137 (Int32.toNatClampNeg l2))), .ref 128]) (h2 := (q_K0, z.1, z.2, q_R0)) [(.aload_n 0, 0, 0, 0, 0, 0), (.getfield 35, 0, 9, 24, 0, 0), (.iload_n 1, 0, 0, 0, 0, 0), (.iaload, 0, 0, 0, 0, 0), (.i2l, 0, 0, 0, 0, 0), (.lstore_n 3, 0, 0, 0, 0, 0), (.aload_n 0, 0, 0, 0, 0, 0), (.getfield 38, 0, 9, 25, 0, 0), (.iload_n 1, 0, 0, 0, 0, 0), (.iaload, 0, 0, 0, 0, 0), (.i2l, 0, 0, 0, 0, 0), (.lstore 5, 0, 0, 0, 0, 0), (.aload_n 0, 0, 0, 0, 0, 0), (.getfield 35, 0, 9, 24, 0, 0), (.iload_n 2, 0, 0, 0, 0, 0), (.iaload, 0, 0, 0, 0, 0), (.i2l, 0, 0, 0, 0, 0), (.lstore 7, 0, 0, 0, 0, 0), (.aload_n 0, 0, 0, 0, 0, 0), (.getfield 38, 0, 9, 25, 0, 0), (.iload_n 2, 0, 0, 0, 0, 0), (.iaload, 0, 0, 0, 0, 0), (.i2l, 0, 0, 0, 0, 0), (.lstore 9, 0, 0, 0, 0, 0), (.aload_n 0, 0, 0, 0, 0, 0), (.lload 7, 0, 0, 0, 0, 0), (.lload 9, 0, 0, 0, 0, 0)] (by decide +kernel) rfl rfl ⟨trivial, rfl, trivial, ⟨_, rfl, vp_in_iff.mpr b1⟩, trivial, trivial, trivial, rfl, trivial, ⟨_, rfl, vp_in_iff.mpr b1⟩, trivial, trivial, trivial, rfl, trivial, ⟨_, rfl, vp_in_iff.mpr b2⟩, trivial, trivial, trivial, rfl, trivial, ⟨_, rfl, vp_in_iff.mpr b2⟩, trivial, trivial, trivial, trivial, trivial, trivial⟩ ?_
  obtain ⟨⟨r3, z4⟩, hc15, h⟩ := Option.bind_eq_some_iff.mp h
  dsimp only at h
  refine q_cV1 (idx := 119) (v := .int r3) (h1 := (q_K0, z4.1, z4.2, q_R0)) [.long (Int32.toInt64 (z.1 138 (Int32.toNatClampNeg l2))), .long (Int32.toInt64 (z.1 137 (Int32.toNatClampNeg l2))), .ref 128] 105 128 9 [.long (Int32.toInt64 (z.1 137 (Int32.toNatClampNeg l2))), .long (Int32.toInt64 (z.1 138 (Int32.toNatClampNeg l2)))] [] rfl (by decide +kernel) (by decide +kernel) rfl (Nat.le_of_ble_eq_true rfl) rfl (by decide) (by decide +kernel) (by decide +kernel) (s_X10_isForm hc15) ?_
  refine q_blk2 (pc2 := 66) (ls2 := [(14, .long (((Int32.toInt64 (z.1 138 (Int32.toNatClampNeg l1))) + (Int32.toInt64 (z.1 138 (Int32.toNatClampNeg l2)))) / 2)), (12, .long (z4.2 128 14)), (11, .int r3), (9, .long (Int32.toInt64 (z.1 138 (Int32.toNatClampNeg l2)))), (7, .long (Int32.toInt64 (z.1 137 (Int32.toNatClampNeg l2)))), (5, .long (Int32.toInt64 (z.1 138 (Int32.toNatClampNeg l1)))), (3, .long (Int32.toInt64 (z.1 137 (Int32.toNatClampNeg l1)))), (0, .ref 128), (1, .int l1), (2, .int l2)]) (st2 := [.long (Int32.toInt64 (z.1 137 (Int32.toNatClampNeg l2))), .long (Int32.toInt64 (z.1 137 (Int32.toNatClampNeg l1))), .ref 128]) (h2 := (q_K0, z4.1, z4.2, q_R0)) [(.istore 11, 0, 0, 0, 0, 0), (.aload_n 0, 0, 0, 0, 0, 0), (.getfield 79, 0, 9, 14, 0, 0), (.lstore 12, 0, 0, 0, 0, 0), (.lload 5, 0, 0, 0, 0, 0), (.lload 9, 0, 0, 0, 0, 0), (.ladd, 0, 0, 0, 0, 0), (.ldc2_w 70, 0, 0, 0, 0, 2), (.ldiv, 0, 0, 0, 0, 0), (.lstore 14, 0, 0, 0, 0, 0), (.aload_n 0, 0, 0, 0, 0, 0), (.lload_n 3, 0, 0, 0, 0, 0), (.lload 7, 0, 0, 0, 0, 0)] (by decide +kernel) rfl rfl ⟨trivial, trivial, rfl, trivial, trivial, trivial, trivial, trivial, (by decide), trivial, trivial, trivial, trivial, trivial⟩ ?_
  obtain ⟨⟨_, z6⟩, hc16, h⟩ := Option.bind_eq_some_iff.mp h
  dsimp only at h
  refine q_cV0 (idx := 195) (h1 := (q_K0, z6.1, z6.2, q_R0)) [.long (Int32.toInt64 (z.1 137 (Int32.toNatClampNeg l2))), .long (Int32.toInt64 (z.1 137 (Int32.toNatClampNeg l1))), .ref 128] 132 128 9 [.long (Int32.toInt64 (z.1 137 (Int32.toNatClampNeg l1))), .long (Int32.toInt64 (z.1 137 (Int32.toNatClampNeg l2)))] [] rfl (by decide +kernel) (by decide +kernel) rfl (Nat.le_of_ble_eq_true rfl) rfl (by decide) (by decide +kernel) (by decide +kernel) (s_X10_common hc16) ?_
  refine q_blk2 (pc2 := 92) (ls2 := [(20, .long (z6.2 128 28)), (18, .long (z6.2 128 27)), (16, .long (z6.2 128 26)), (14, .long (((Int32.toInt64 (z.1 138 (Int32.toNatClampNeg l1))) + (Int32.toInt64 (z.1 138 (Int32.toNatClampNeg l2)))) / 2)), (12, .long (z4.2 128 14)), (11, .int r3), (9, .long (Int32.toInt64 (z.1 138 (Int32.toNatClampNeg l2)))), (7, .long (Int32.toInt64 (z.1 137 (Int32.toNatClampNeg l2)))), (5, .long (Int32.toInt64 (z.1 138 (Int32.toNatClampNeg l1)))), (3, .long (Int32.toInt64 (z.1 137 (Int32.toNatClampNeg l1)))), (0, .ref 128), (1, .int l1), (2, .int l2)]) (st2 := [.long (((Int32.toInt64 (z.1 138 (Int32.toNatClampNeg l1))) + (Int32.toInt64 (z.1 138 (Int32.toNatClampNeg l2)))) / 2), .long (z6.2 128 26), .ref 128]) (h2 := (q_K0, z6.1, z6.2, q_R0)) [(.aload_n 0, 0, 0, 0, 0, 0), (.getfield 186, 0, 9, 26, 0, 0), (.lstore 16, 0, 0, 0, 0, 0), (.aload_n 0, 0, 0, 0, 0, 0), (.getfield 189, 0, 9, 27, 0, 0), (.lstore 18, 0, 0, 0, 0, 0), (.aload_n 0, 0, 0, 0, 0, 0), (.getfield 192, 0, 9, 28, 0, 0), (.lstore 20, 0, 0, 0, 0, 0), (.aload_n 0, 0, 0, 0, 0, 0), (.lload 16, 0, 0, 0, 0, 0), (.lload 14, 0, 0, 0, 0, 0)] (by decide +kernel) rfl rfl ⟨trivial, rfl, trivial, trivial, rfl, trivial, trivial, rfl, trivial, trivial, trivial, trivial, trivial⟩ ?_
  obtain ⟨⟨_, z8⟩, hc17, h⟩ := Option.bind_eq_some_iff.mp h
  dsimp only at h
  refine q_cV0 (idx := 195) (h1 := (q_K0, z8.1, z8.2, q_R0)) [.long (((Int32.toInt64 (z.1 138 (Int32.toNatClampNeg l1))) + (Int32.toInt64 (z.1 138 (Int32.toNatClampNeg l2)))) / 2), .long (z6.2 128 26), .ref 128] 132 128 9 [.long (z6.2 128 26), .long (((Int32.toInt64 (z.1 138 (Int32.toNatClampNeg l1))) + (Int32.toInt64 (z.1 138 (Int32.toNatClampNeg l2)))) / 2)] [] rfl (by decide +kernel) (by decide +kernel) rfl (Nat.le_of_ble_eq_true rfl) rfl (by decide) (by decide +kernel) (by decide +kernel) (s_X10_common hc17) ?_
  have b9 : ¬ (z8.2 128 26) = (0 : Int64) := by
    by_cases q : ¬ (z8.2 128 26) = (0 : Int64)
    · exact q
    · rw [if_neg q] at h; cases h
  rw [if_pos b9] at h
  have b10 : ¬ ((Int32.toInt64 (z.1 137 (Int32.toNatClampNeg l1))) / (z8.2 128 26)) = (0 : Int64) := by
    by_cases q : ¬ ((Int32.toInt64 (z.1 137 (Int32.toNatClampNeg l1))) / (z8.2 128 26)) = (0 : Int64)
    · exact q
    · rw [if_neg q] at h; cases h
  rw [if_pos b10] at h
  refine q_blk2 (pc2 := 191) (ls2 := [(32, .long ((Int32.toInt64 (z.1 138 (Int32.toNatClampNeg l2))) + ((2 * ((Int32.toInt64 (z.1 137 (Int32.toNatClampNeg l2))) / (z8.2 128 26))) * ((((((z6.2 128 28) * (z8.2 128 27)) - ((z6.2 128 28) * (z8.2 128 27)) / ((Int32.toInt64 (z.1 137 (Int32.toNatClampNeg l1))) / (z8.2 128 26)) * ((Int32.toInt64 (z.1 137 (Int32.toNatClampNeg l1))) / (z8.2 128 26))) * ((((Int32.toInt64 (z.1 138 (Int32.toNatClampNeg l1))) - (Int32.toInt64 (z.1 138 (Int32.toNatClampNeg l2)))) / 2) - (((Int32.toInt64 (z.1 138 (Int32.toNatClampNeg l1))) - (Int32.toInt64 (z.1 138 (Int32.toNatClampNeg l2)))) / 2) / ((Int32.toInt64 (z.1 137 (Int32.toNatClampNeg l1))) / (z8.2 128 26)) * ((Int32.toInt64 (z.1 137 (Int32.toNatClampNeg l1))) / (z8.2 128 26)))) - (((z8.2 128 28) - (z8.2 128 28) / ((Int32.toInt64 (z.1 137 (Int32.toNatClampNeg l1))) / (z8.2 128 26)) * ((Int32.toInt64 (z.1 137 (Int32.toNatClampNeg l1))) / (z8.2 128 26))) * ((z4.2 128 14) - (z4.2 128 14) / ((Int32.toInt64 (z.1 137 (Int32.toNatClampNeg l1))) / (z8.2 128 26)) * ((Int32.toInt64 (z.1 137 (Int32.toNatClampNeg l1))) / (z8.2 128 26))))) - (((((z6.2 128 28) * (z8.2 128 27)) - ((z6.2 128 28) * (z8.2 128 27)) / ((Int32.toInt64 (z.1 137 (Int32.toNatClampNeg l1))) / (z8.2 128 26)) * ((Int32.toInt64 (z.1 137 (Int32.toNatClampNeg l1))) / (z8.2 128 26))) * ((((Int32.toInt64 (z.1 138 (Int32.toNatClampNeg l1))) - (Int32.toInt64 (z.1 138 (Int32.toNatClampNeg l2)))) / 2) - (((Int32.toInt64 (z.1 138 (Int32.toNatClampNeg l1))) - (Int32.toInt64 (z.1 138 (Int32.toNatClampNeg l2)))) / 2) / ((Int32.toInt64 (z.1 137 (Int32.toNatClampNeg l1))) / (z8.2 128 26)) * ((Int32.toInt64 (z.1 137 (Int32.toNatClampNeg l1))) / (z8.2 128 26)))) - (((z8.2 128 28) - (z8.2 128 28) / ((Int32.toInt64 (z.1 137 (Int32.toNatClampNeg l1))) / (z8.2 128 26)) * ((Int32.toInt64 (z.1 137 (Int32.toNatClampNeg l1))) / (z8.2 128 26))) * ((z4.2 128 14) - (z4.2 128 14) / ((Int32.toInt64 (z.1 137 (Int32.toNatClampNeg l1))) / (z8.2 128 26)) * ((Int32.toInt64 (z.1 137 (Int32.toNatClampNeg l1))) / (z8.2 128 26))))) / ((Int32.toInt64 (z.1 137 (Int32.toNatClampNeg l1))) / (z8.2 128 26)) * ((Int32.toInt64 (z.1 137 (Int32.toNatClampNeg l1))) / (z8.2 128 26)))))), (30, .long (((Int32.toInt64 (z.1 137 (Int32.toNatClampNeg l1))) / (z8.2 128 26)) * ((Int32.toInt64 (z.1 137 (Int32.toNatClampNeg l2))) / (z8.2 128 26)))), (28, .long ((((((z6.2 128 28) * (z8.2 128 27)) - ((z6.2 128 28) * (z8.2 128 27)) / ((Int32.toInt64 (z.1 137 (Int32.toNatClampNeg l1))) / (z8.2 128 26)) * ((Int32.toInt64 (z.1 137 (Int32.toNatClampNeg l1))) / (z8.2 128 26))) * ((((Int32.toInt64 (z.1 138 (Int32.toNatClampNeg l1))) - (Int32.toInt64 (z.1 138 (Int32.toNatClampNeg l2)))) / 2) - (((Int32.toInt64 (z.1 138 (Int32.toNatClampNeg l1))) - (Int32.toInt64 (z.1 138 (Int32.toNatClampNeg l2)))) / 2) / ((Int32.toInt64 (z.1 137 (Int32.toNatClampNeg l1))) / (z8.2 128 26)) * ((Int32.toInt64 (z.1 137 (Int32.toNatClampNeg l1))) / (z8.2 128 26)))) - (((z8.2 128 28) - (z8.2 128 28) / ((Int32.toInt64 (z.1 137 (Int32.toNatClampNeg l1))) / (z8.2 128 26)) * ((Int32.toInt64 (z.1 137 (Int32.toNatClampNeg l1))) / (z8.2 128 26))) * ((z4.2 128 14) - (z4.2 128 14) / ((Int32.toInt64 (z.1 137 (Int32.toNatClampNeg l1))) / (z8.2 128 26)) * ((Int32.toInt64 (z.1 137 (Int32.toNatClampNeg l1))) / (z8.2 128 26))))) - (((((z6.2 128 28) * (z8.2 128 27)) - ((z6.2 128 28) * (z8.2 128 27)) / ((Int32.toInt64 (z.1 137 (Int32.toNatClampNeg l1))) / (z8.2 128 26)) * ((Int32.toInt64 (z.1 137 (Int32.toNatClampNeg l1))) / (z8.2 128 26))) * ((((Int32.toInt64 (z.1 138 (Int32.toNatClampNeg l1))) - (Int32.toInt64 (z.1 138 (Int32.toNatClampNeg l2)))) / 2) - (((Int32.toInt64 (z.1 138 (Int32.toNatClampNeg l1))) - (Int32.toInt64 (z.1 138 (Int32.toNatClampNeg l2)))) / 2) / ((Int32.toInt64 (z.1 137 (Int32.toNatClampNeg l1))) / (z8.2 128 26)) * ((Int32.toInt64 (z.1 137 (Int32.toNatClampNeg l1))) / (z8.2 128 26)))) - (((z8.2 128 28) - (z8.2 128 28) / ((Int32.toInt64 (z.1 137 (Int32.toNatClampNeg l1))) / (z8.2 128 26)) * ((Int32.toInt64 (z.1 137 (Int32.toNatClampNeg l1))) / (z8.2 128 26))) * ((z4.2 128 14) - (z4.2 128 14) / ((Int32.toInt64 (z.1 137 (Int32.toNatClampNeg l1))) / (z8.2 128 26)) * ((Int32.toInt64 (z.1 137 (Int32.toNatClampNeg l1))) / (z8.2 128 26))))) / ((Int32.toInt64 (z.1 137 (Int32.toNatClampNeg l1))) / (z8.2 128 26)) * ((Int32.toInt64 (z.1 137 (Int32.toNatClampNeg l1))) / (z8.2 128 26)))), (26, .long ((Int32.toInt64 (z.1 137 (Int32.toNatClampNeg l1))) / (z8.2 128 26))), (24, .long (z8.2 128 28)), (20, .long ((z6.2 128 28) * (z8.2 128 27))), (22, .long (z8.2 128 26)), (18, .long (z6.2 128 27)), (16, .long (z6.2 128 26)), (14, .long (((Int32.toInt64 (z.1 138 (Int32.toNatClampNeg l1))) + (Int32.toInt64 (z.1 138 (Int32.toNatClampNeg l2)))) / 2)), (12, .long (z4.2 128 14)), (11, .int r3), (9, .long (Int32.toInt64 (z.1 138 (Int32.toNatClampNeg l2)))), (7, .long (Int32.toInt64 (z.1 137 (Int32.toNatClampNeg l2)))), (5, .long (Int32.toInt64 (z.1 138 (Int32.toNatClampNeg l1)))), (3, .long (Int32.toInt64 (z.1 137 (Int32.toNatClampNeg l1)))), (0, .ref 128), (1, .int l1), (2, .int l2)]) (st2 := [.long ((Int32.toInt64 (z.1 138 (Int32.toNatClampNeg l2))) + ((2 * ((Int32.toInt64 (z.1 137 (Int32.toNatClampNeg l2))) / (z8.2 128 26))) * ((((((z6.2 128 28) * (z8.2 128 27)) - ((z6.2 128 28) * (z8.2 128 27)) / ((Int32.toInt64 (z.1 137 (Int32.toNatClampNeg l1))) / (z8.2 128 26)) * ((Int32.toInt64 (z.1 137 (Int32.toNatClampNeg l1))) / (z8.2 128 26))) * ((((Int32.toInt64 (z.1 138 (Int32.toNatClampNeg l1))) - (Int32.toInt64 (z.1 138 (Int32.toNatClampNeg l2)))) / 2) - (((Int32.toInt64 (z.1 138 (Int32.toNatClampNeg l1))) - (Int32.toInt64 (z.1 138 (Int32.toNatClampNeg l2)))) / 2) / ((Int32.toInt64 (z.1 137 (Int32.toNatClampNeg l1))) / (z8.2 128 26)) * ((Int32.toInt64 (z.1 137 (Int32.toNatClampNeg l1))) / (z8.2 128 26)))) - (((z8.2 128 28) - (z8.2 128 28) / ((Int32.toInt64 (z.1 137 (Int32.toNatClampNeg l1))) / (z8.2 128 26)) * ((Int32.toInt64 (z.1 137 (Int32.toNatClampNeg l1))) / (z8.2 128 26))) * ((z4.2 128 14) - (z4.2 128 14) / ((Int32.toInt64 (z.1 137 (Int32.toNatClampNeg l1))) / (z8.2 128 26)) * ((Int32.toInt64 (z.1 137 (Int32.toNatClampNeg l1))) / (z8.2 128 26))))) - (((((z6.2 128 28) * (z8.2 128 27)) - ((z6.2 128 28) * (z8.2 128 27)) / ((Int32.toInt64 (z.1 137 (Int32.toNatClampNeg l1))) / (z8.2 128 26)) * ((Int32.toInt64 (z.1 137 (Int32.toNatClampNeg l1))) / (z8.2 128 26))) * ((((Int32.toInt64 (z.1 138 (Int32.toNatClampNeg l1))) - (Int32.toInt64 (z.1 138 (Int32.toNatClampNeg l2)))) / 2) - (((Int32.toInt64 (z.1 138 (Int32.toNatClampNeg l1))) - (Int32.toInt64 (z.1 138 (Int32.toNatClampNeg l2)))) / 2) / ((Int32.toInt64 (z.1 137 (Int32.toNatClampNeg l1))) / (z8.2 128 26)) * ((Int32.toInt64 (z.1 137 (Int32.toNatClampNeg l1))) / (z8.2 128 26)))) - (((z8.2 128 28) - (z8.2 128 28) / ((Int32.toInt64 (z.1 137 (Int32.toNatClampNeg l1))) / (z8.2 128 26)) * ((Int32.toInt64 (z.1 137 (Int32.toNatClampNeg l1))) / (z8.2 128 26))) * ((z4.2 128 14) - (z4.2 128 14) / ((Int32.toInt64 (z.1 137 (Int32.toNatClampNeg l1))) / (z8.2 128 26)) * ((Int32.toInt64 (z.1 137 (Int32.toNatClampNeg l1))) / (z8.2 128 26))))) / ((Int32.toInt64 (z.1 137 (Int32.toNatClampNeg l1))) / (z8.2 128 26)) * ((Int32.toInt64 (z.1 137 (Int32.toNatClampNeg l1))) / (z8.2 128 26))))), .long (((Int32.toInt64 (z.1 137 (Int32.toNatClampNeg l1))) / (z8.2 128 26)) * ((Int32.toInt64 (z.1 137 (Int32.toNatClampNeg l2))) / (z8.2 128 26))), .ref 128]) (h2 := (q_K0, z8.1, z8.2, q_R0)) [(.aload_n 0, 0, 0, 0, 0, 0), (.getfield 186, 0, 9, 26, 0, 0), (.lstore 22, 0, 0, 0, 0, 0), (.lload 20, 0, 0, 0, 0, 0), (.aload_n 0, 0, 0, 0, 0, 0), (.getfield 189, 0, 9, 27, 0, 0), (.lmul, 0, 0, 0, 0, 0), (.lstore 20, 0, 0, 0, 0, 0), (.aload_n 0, 0, 0, 0, 0, 0), (.getfield 192, 0, 9, 28, 0, 0), (.lstore 24, 0, 0, 0, 0, 0), (.lload_n 3, 0, 0, 0, 0, 0), (.lload 22, 0, 0, 0, 0, 0), (.ldiv, 0, 0, 0, 0, 0), (.lstore 26, 0, 0, 0, 0, 0), (.lload 20, 0, 0, 0, 0, 0), (.lload 26, 0, 0, 0, 0, 0), (.lrem, 0, 0, 0, 0, 0), (.lload 5, 0, 0, 0, 0, 0), (.lload 9, 0, 0, 0, 0, 0), (.lsub, 0, 0, 0, 0, 0), (.ldc2_w 70, 0, 0, 0, 0, 2), (.ldiv, 0, 0, 0, 0, 0), (.lload 26, 0, 0, 0, 0, 0), (.lrem, 0, 0, 0, 0, 0), (.lmul, 0, 0, 0, 0, 0), (.lload 24, 0, 0, 0, 0, 0), (.lload 26, 0, 0, 0, 0, 0), (.lrem, 0, 0, 0, 0, 0), (.lload 12, 0, 0, 0, 0, 0), (.lload 26, 0, 0, 0, 0, 0), (.lrem, 0, 0, 0, 0, 0), (.lmul, 0, 0, 0, 0, 0), (.lsub, 0, 0, 0, 0, 0), (.lload 26, 0, 0, 0, 0, 0), (.lrem, 0, 0, 0, 0, 0), (.lstore 28, 0, 0, 0, 0, 0), (.lload_n 3, 0, 0, 0, 0, 0), (.lload 22, 0, 0, 0, 0, 0), (.ldiv, 0, 0, 0, 0, 0), (.lload 7, 0, 0, 0, 0, 0), (.lload 22, 0, 0, 0, 0, 0), (.ldiv, 0, 0, 0, 0, 0), (.lmul, 0, 0, 0, 0, 0), (.lstore 30, 0, 0, 0, 0, 0), (.lload 9, 0, 0, 0, 0, 0), (.ldc2_w 70, 0, 0, 0, 0, 2), (.lload 7, 0, 0, 0, 0, 0), (.lload 22, 0, 0, 0, 0, 0), (.ldiv, 0, 0, 0, 0, 0), (.lmul, 0, 0, 0, 0, 0), (.lload 28, 0, 0, 0, 0, 0), (.lmul, 0, 0, 0, 0, 0), (.ladd, 0, 0, 0, 0, 0), (.lstore 32, 0, 0, 0, 0, 0), (.aload_n 0, 0, 0, 0, 0, 0), (.lload 30, 0, 0, 0, 0, 0), (.lload 32, 0, 0, 0, 0, 0)] (by decide +kernel) rfl rfl ⟨trivial, rfl, trivial, trivial, trivial, rfl, trivial, trivial, trivial, rfl, trivial, trivial, trivial, b9, trivial, trivial, trivial, b10, trivial, trivial, trivial, trivial, (by decide), trivial, b10, trivial, trivial, trivial, b10, trivial, trivial, b10, trivial, trivial, trivial, b10, trivial, trivial, trivial, b9, trivial, trivial, b9, trivial, trivial, trivial, trivial, trivial, trivial, b9, trivial, trivial, trivial, trivial, trivial, trivial, trivial, trivial, trivial⟩ ?_
  obtain ⟨⟨r11, z12⟩, hc18, h⟩ := Option.bind_eq_some_iff.mp h
  dsimp only at h
  refine q_cV1 (idx := 119) (v := .int r11) (h1 := (q_K0, z12.1, z12.2, q_R0)) [.long ((Int32.toInt64 (z.1 138 (Int32.toNatClampNeg l2))) + ((2 * ((Int32.toInt64 (z.1 137 (Int32.toNatClampNeg l2))) / (z8.2 128 26))) * ((((((z6.2 128 28) * (z8.2 128 27)) - ((z6.2 128 28) * (z8.2 128 27)) / ((Int32.toInt64 (z.1 137 (Int32.toNatClampNeg l1))) / (z8.2 128 26)) * ((Int32.toInt64 (z.1 137 (Int32.toNatClampNeg l1))) / (z8.2 128 26))) * ((((Int32.toInt64 (z.1 138 (Int32.toNatClampNeg l1))) - (Int32.toInt64 (z.1 138 (Int32.toNatClampNeg l2)))) / 2) - (((Int32.toInt64 (z.1 138 (Int32.toNatClampNeg l1))) - (Int32.toInt64 (z.1 138 (Int32.toNatClampNeg l2)))) / 2) / ((Int32.toInt64 (z.1 137 (Int32.toNatClampNeg l1))) / (z8.2 128 26)) * ((Int32.toInt64 (z.1 137 (Int32.toNatClampNeg l1))) / (z8.2 128 26)))) - (((z8.2 128 28) - (z8.2 128 28) / ((Int32.toInt64 (z.1 137 (Int32.toNatClampNeg l1))) / (z8.2 128 26)) * ((Int32.toInt64 (z.1 137 (Int32.toNatClampNeg l1))) / (z8.2 128 26))) * ((z4.2 128 14) - (z4.2 128 14) / ((Int32.toInt64 (z.1 137 (Int32.toNatClampNeg l1))) / (z8.2 128 26)) * ((Int32.toInt64 (z.1 137 (Int32.toNatClampNeg l1))) / (z8.2 128 26))))) - (((((z6.2 128 28) * (z8.2 128 27)) - ((z6.2 128 28) * (z8.2 128 27)) / ((Int32.toInt64 (z.1 137 (Int32.toNatClampNeg l1))) / (z8.2 128 26)) * ((Int32.toInt64 (z.1 137 (Int32.toNatClampNeg l1))) / (z8.2 128 26))) * ((((Int32.toInt64 (z.1 138 (Int32.toNatClampNeg l1))) - (Int32.toInt64 (z.1 138 (Int32.toNatClampNeg l2)))) / 2) - (((Int32.toInt64 (z.1 138 (Int32.toNatClampNeg l1))) - (Int32.toInt64 (z.1 138 (Int32.toNatClampNeg l2)))) / 2) / ((Int32.toInt64 (z.1 137 (Int32.toNatClampNeg l1))) / (z8.2 128 26)) * ((Int32.toInt64 (z.1 137 (Int32.toNatClampNeg l1))) / (z8.2 128 26)))) - (((z8.2 128 28) - (z8.2 128 28) / ((Int32.toInt64 (z.1 137 (Int32.toNatClampNeg l1))) / (z8.2 128 26)) * ((Int32.toInt64 (z.1 137 (Int32.toNatClampNeg l1))) / (z8.2 128 26))) * ((z4.2 128 14) - (z4.2 128 14) / ((Int32.toInt64 (z.1 137 (Int32.toNatClampNeg l1))) / (z8.2 128 26)) * ((Int32.toInt64 (z.1 137 (Int32.toNatClampNeg l1))) / (z8.2 128 26))))) / ((Int32.toInt64 (z.1 137 (Int32.toNatClampNeg l1))) / (z8.2 128 26)) * ((Int32.toInt64 (z.1 137 (Int32.toNatClampNeg l1))) / (z8.2 128 26))))), .long (((Int32.toInt64 (z.1 137 (Int32.toNatClampNeg l1))) / (z8.2 128 26)) * ((Int32.toInt64 (z.1 137 (Int32.toNatClampNeg l2))) / (z8.2 128 26))), .ref 128] 105 128 9 [.long (((Int32.toInt64 (z.1 137 (Int32.toNatClampNeg l1))) / (z8.2 128 26)) * ((Int32.toInt64 (z.1 137 (Int32.toNatClampNeg l2))) / (z8.2 128 26))), .long ((Int32.toInt64 (z.1 138 (Int32.toNatClampNeg l2))) + ((2 * ((Int32.toInt64 (z.1 137 (Int32.toNatClampNeg l2))) / (z8.2 128 26))) * ((((((z6.2 128 28) * (z8.2 128 27)) - ((z6.2 128 28) * (z8.2 128 27)) / ((Int32.toInt64 (z.1 137 (Int32.toNatClampNeg l1))) / (z8.2 128 26)) * ((Int32.toInt64 (z.1 137 (Int32.toNatClampNeg l1))) / (z8.2 128 26))) * ((((Int32.toInt64 (z.1 138 (Int32.toNatClampNeg l1))) - (Int32.toInt64 (z.1 138 (Int32.toNatClampNeg l2)))) / 2) - (((Int32.toInt64 (z.1 138 (Int32.toNatClampNeg l1))) - (Int32.toInt64 (z.1 138 (Int32.toNatClampNeg l2)))) / 2) / ((Int32.toInt64 (z.1 137 (Int32.toNatClampNeg l1))) / (z8.2 128 26)) * ((Int32.toInt64 (z.1 137 (Int32.toNatClampNeg l1))) / (z8.2 128 26)))) - (((z8.2 128 28) - (z8.2 128 28) / ((Int32.toInt64 (z.1 137 (Int32.toNatClampNeg l1))) / (z8.2 128 26)) * ((Int32.toInt64 (z.1 137 (Int32.toNatClampNeg l1))) / (z8.2 128 26))) * ((z4.2 128 14) - (z4.2 128 14) / ((Int32.toInt64 (z.1 137 (Int32.toNatClampNeg l1))) / (z8.2 128 26)) * ((Int32.toInt64 (z.1 137 (Int32.toNatClampNeg l1))) / (z8.2 128 26))))) - (((((z6.2 128 28) * (z8.2 128 27)) - ((z6.2 128 28) * (z8.2 128 27)) / ((Int32.toInt64 (z.1 137 (Int32.toNatClampNeg l1))) / (z8.2 128 26)) * ((Int32.toInt64 (z.1 137 (Int32.toNatClampNeg l1))) / (z8.2 128 26))) * ((((Int32.toInt64 (z.1 138 (Int32.toNatClampNeg l1))) - (Int32.toInt64 (z.1 138 (Int32.toNatClampNeg l2)))) / 2) - (((Int32.toInt64 (z.1 138 (Int32.toNatClampNeg l1))) - (Int32.toInt64 (z.1 138 (Int32.toNatClampNeg l2)))) / 2) / ((Int32.toInt64 (z.1 137 (Int32.toNatClampNeg l1))) / (z8.2 128 26)) * ((Int32.toInt64 (z.1 137 (Int32.toNatClampNeg l1))) / (z8.2 128 26)))) - (((z8.2 128 28) - (z8.2 128 28) / ((Int32.toInt64 (z.1 137 (Int32.toNatClampNeg l1))) / (z8.2 128 26)) * ((Int32.toInt64 (z.1 137 (Int32.toNatClampNeg l1))) / (z8.2 128 26))) * ((z4.2 128 14) - (z4.2 128 14) / ((Int32.toInt64 (z.1 137 (Int32.toNatClampNeg l1))) / (z8.2 128 26)) * ((Int32.toInt64 (z.1 137 (Int32.toNatClampNeg l1))) / (z8.2 128 26))))) / ((Int32.toInt64 (z.1 137 (Int32.toNatClampNeg l1))) / (z8.2 128 26)) * ((Int32.toInt64 (z.1 137 (Int32.toNatClampNeg l1))) / (z8.2 128 26)))))] [] rfl (by decide +kernel) (by decide +kernel) rfl (Nat.le_of_ble_eq_true rfl) rfl (by decide) (by decide +kernel) (by decide +kernel) (s_X10_isForm hc18) ?_
  refine q_blk2 (pc2 := 197) (ls2 := [(11, .int r11), (32, .long ((Int32.toInt64 (z.1 138 (Int32.toNatClampNeg l2))) + ((2 * ((Int32.toInt64 (z.1 137 (Int32.toNatClampNeg l2))) / (z8.2 128 26))) * ((((((z6.2 128 28) * (z8.2 128 27)) - ((z6.2 128 28) * (z8.2 128 27)) / ((Int32.toInt64 (z.1 137 (Int32.toNatClampNeg l1))) / (z8.2 128 26)) * ((Int32.toInt64 (z.1 137 (Int32.toNatClampNeg l1))) / (z8.2 128 26))) * ((((Int32.toInt64 (z.1 138 (Int32.toNatClampNeg l1))) - (Int32.toInt64 (z.1 138 (Int32.toNatClampNeg l2)))) / 2) - (((Int32.toInt64 (z.1 138 (Int32.toNatClampNeg l1))) - (Int32.toInt64 (z.1 138 (Int32.toNatClampNeg l2)))) / 2) / ((Int32.toInt64 (z.1 137 (Int32.toNatClampNeg l1))) / (z8.2 128 26)) * ((Int32.toInt64 (z.1 137 (Int32.toNatClampNeg l1))) / (z8.2 128 26)))) - (((z8.2 128 28) - (z8.2 128 28) / ((Int32.toInt64 (z.1 137 (Int32.toNatClampNeg l1))) / (z8.2 128 26)) * ((Int32.toInt64 (z.1 137 (Int32.toNatClampNeg l1))) / (z8.2 128 26))) * ((z4.2 128 14) - (z4.2 128 14) / ((Int32.toInt64 (z.1 137 (Int32.toNatClampNeg l1))) / (z8.2 128 26)) * ((Int32.toInt64 (z.1 137 (Int32.toNatClampNeg l1))) / (z8.2 128 26))))) - (((((z6.2 128 28) * (z8.2 128 27)) - ((z6.2 128 28) * (z8.2 128 27)) / ((Int32.toInt64 (z.1 137 (Int32.toNatClampNeg l1))) / (z8.2 128 26)) * ((Int32.toInt64 (z.1 137 (Int32.toNatClampNeg l1))) / (z8.2 128 26))) * ((((Int32.toInt64 (z.1 138 (Int32.toNatClampNeg l1))) - (Int32.toInt64 (z.1 138 (Int32.toNatClampNeg l2)))) / 2) - (((Int32.toInt64 (z.1 138 (Int32.toNatClampNeg l1))) - (Int32.toInt64 (z.1 138 (Int32.toNatClampNeg l2)))) / 2) / ((Int32.toInt64 (z.1 137 (Int32.toNatClampNeg l1))) / (z8.2 128 26)) * ((Int32.toInt64 (z.1 137 (Int32.toNatClampNeg l1))) / (z8.2 128 26)))) - (((z8.2 128 28) - (z8.2 128 28) / ((Int32.toInt64 (z.1 137 (Int32.toNatClampNeg l1))) / (z8.2 128 26)) * ((Int32.toInt64 (z.1 137 (Int32.toNatClampNeg l1))) / (z8.2 128 26))) * ((z4.2 128 14) - (z4.2 128 14) / ((Int32.toInt64 (z.1 137 (Int32.toNatClampNeg l1))) / (z8.2 128 26)) * ((Int32.toInt64 (z.1 137 (Int32.toNatClampNeg l1))) / (z8.2 128 26))))) / ((Int32.toInt64 (z.1 137 (Int32.toNatClampNeg l1))) / (z8.2 128 26)) * ((Int32.toInt64 (z.1 137 (Int32.toNatClampNeg l1))) / (z8.2 128 26)))))), (30, .long (((Int32.toInt64 (z.1 137 (Int32.toNatClampNeg l1))) / (z8.2 128 26)) * ((Int32.toInt64 (z.1 137 (Int32.toNatClampNeg l2))) / (z8.2 128 26)))), (28, .long ((((((z6.2 128 28) * (z8.2 128 27)) - ((z6.2 128 28) * (z8.2 128 27)) / ((Int32.toInt64 (z.1 137 (Int32.toNatClampNeg l1))) / (z8.2 128 26)) * ((Int32.toInt64 (z.1 137 (Int32.toNatClampNeg l1))) / (z8.2 128 26))) * ((((Int32.toInt64 (z.1 138 (Int32.toNatClampNeg l1))) - (Int32.toInt64 (z.1 138 (Int32.toNatClampNeg l2)))) / 2) - (((Int32.toInt64 (z.1 138 (Int32.toNatClampNeg l1))) - (Int32.toInt64 (z.1 138 (Int32.toNatClampNeg l2)))) / 2) / ((Int32.toInt64 (z.1 137 (Int32.toNatClampNeg l1))) / (z8.2 128 26)) * ((Int32.toInt64 (z.1 137 (Int32.toNatClampNeg l1))) / (z8.2 128 26)))) - (((z8.2 128 28) - (z8.2 128 28) / ((Int32.toInt64 (z.1 137 (Int32.toNatClampNeg l1))) / (z8.2 128 26)) * ((Int32.toInt64 (z.1 137 (Int32.toNatClampNeg l1))) / (z8.2 128 26))) * ((z4.2 128 14) - (z4.2 128 14) / ((Int32.toInt64 (z.1 137 (Int32.toNatClampNeg l1))) / (z8.2 128 26)) * ((Int32.toInt64 (z.1 137 (Int32.toNatClampNeg l1))) / (z8.2 128 26))))) - (((((z6.2 128 28) * (z8.2 128 27)) - ((z6.2 128 28) * (z8.2 128 27)) / ((Int32.toInt64 (z.1 137 (Int32.toNatClampNeg l1))) / (z8.2 128 26)) * ((Int32.toInt64 (z.1 137 (Int32.toNatClampNeg l1))) / (z8.2 128 26))) * ((((Int32.toInt64 (z.1 138 (Int32.toNatClampNeg l1))) - (Int32.toInt64 (z.1 138 (Int32.toNatClampNeg l2)))) / 2) - (((Int32.toInt64 (z.1 138 (Int32.toNatClampNeg l1))) - (Int32.toInt64 (z.1 138 (Int32.toNatClampNeg l2)))) / 2) / ((Int32.toInt64 (z.1 137 (Int32.toNatClampNeg l1))) / (z8.2 128 26)) * ((Int32.toInt64 (z.1 137 (Int32.toNatClampNeg l1))) / (z8.2 128 26)))) - (((z8.2 128 28) - (z8.2 128 28) / ((Int32.toInt64 (z.1 137 (Int32.toNatClampNeg l1))) / (z8.2 128 26)) * ((Int32.toInt64 (z.1 137 (Int32.toNatClampNeg l1))) / (z8.2 128 26))) * ((z4.2 128 14) - (z4.2 128 14) / ((Int32.toInt64 (z.1 137 (Int32.toNatClampNeg l1))) / (z8.2 128 26)) * ((Int32.toInt64 (z.1 137 (Int32.toNatClampNeg l1))) / (z8.2 128 26))))) / ((Int32.toInt64 (z.1 137 (Int32.toNatClampNeg l1))) / (z8.2 128 26)) * ((Int32.toInt64 (z.1 137 (Int32.toNatClampNeg l1))) / (z8.2 128 26)))), (26, .long ((Int32.toInt64 (z.1 137 (Int32.toNatClampNeg l1))) / (z8.2 128 26))), (24, .long (z8.2 128 28)), (20, .long ((z6.2 128 28) * (z8.2 128 27))), (22, .long (z8.2 128 26)), (18, .long (z6.2 128 27)), (16, .long (z6.2 128 26)), (14, .long (((Int32.toInt64 (z.1 138 (Int32.toNatClampNeg l1))) + (Int32.toInt64 (z.1 138 (Int32.toNatClampNeg l2)))) / 2)), (12, .long (z4.2 128 14)), (9, .long (Int32.toInt64 (z.1 138 (Int32.toNatClampNeg l2)))), (7, .long (Int32.toInt64 (z.1 137 (Int32.toNatClampNeg l2)))), (5, .long (Int32.toInt64 (z.1 138 (Int32.toNatClampNeg l1)))), (3, .long (Int32.toInt64 (z.1 137 (Int32.toNatClampNeg l1)))), (0, .ref 128), (1, .int l1), (2, .int l2)]) (st2 := [.ref 128]) (h2 := (q_K0, z12.1, z12.2, q_R0)) [(.istore 11, 0, 0, 0, 0, 0), (.aload_n 0, 0, 0, 0, 0, 0)] (by decide +kernel) rfl rfl ⟨trivial, trivial, trivial⟩ ?_
  obtain ⟨⟨r13, z14⟩, hc19, h⟩ := Option.bind_eq_some_iff.mp h
  dsimp only at h
  refine q_cV1 (idx := 177) (v := .int r13) (h1 := (q_K0, z14.1, z14.2, q_R0)) [.ref 128] 112 128 9 [] [] rfl (by decide +kernel) (by decide +kernel) rfl (Nat.le_of_ble_eq_true rfl) rfl (by decide) (by decide +kernel) (by decide +kernel) (s_X10_classHere hc19) ?_
  cases h
  exact q_iret .int rfl rfl (by decide +kernel)
def T_X10_join_21 (z : q_Z) : Option (Int32 × q_Z) :=
  (F_X10_no z 2).bind fun (r3, z4) =>
    some (r3, z4)
set_option maxRecDepth 100000 in
set_option maxHeartbeats 4000000 in
theorem t_X10_join_21 {z zR : q_Z} {rv : Int32} (h : T_X10_join_21 z = some (rv, zR)) : q_Ex none 134 21 [(0, .ref 128)] [] (q_K0, z.1, z.2, q_R0) (some (.int rv)) (q_K0, zR.1, zR.2, q_R0) := by
  unfold T_X10_join_21 at h
  refine q_blk2 (pc2 := 23) (ls2 := [(0, .ref 128)]) (st2 := [.int 2, .ref 128]) (h2 := (q_K0, z.1, z.2, q_R0)) [(.aload_n 0, 0, 0, 0, 0, 0), (.iconst 2, 0, 0, 0, 2, 0)] (by decide +kernel) rfl rfl ⟨trivial, trivial, trivial⟩ ?_
  obtain ⟨⟨r3, z4⟩, hc5, h⟩ := Option.bind_eq_some_iff.mp h
  dsimp only at h
  refine q_cV1 (idx := 152) (v := .int r3) (h1 := (q_K0, z4.1, z4.2, q_R0)) [.int 2, .ref 128] 98 128 9 [.int 2] [] rfl (by decide +kernel) (by decide +kernel) rfl (Nat.le_of_ble_eq_true rfl) rfl (by decide) (by decide +kernel) (by decide +kernel) (s_X10_no hc5) ?_
  cases h
  exact q_iret .int rfl rfl (by decide +kernel)
/-- RootFormsModel.join(II)I -/
def F_X10_join (z : q_Z) (l1 : Int32) (l2 : Int32) : Option (Int32 × q_Z) :=
  (F_X10_isClass (q_u2 z.1 128 3 0, z.2) l1).bind fun (r1, z2) =>
    if r1 = (0 : Int32) then
      T_X10_join_21 z2
    else
      (F_X10_isClass z2 l2).bind fun (r6, z7) =>
        if r6 = (0 : Int32) then
          T_X10_join_21 z7
        else
          (F_X10_joined (q_u2 z7.1 128 2 0, z7.2) l1 l2).bind fun (r8, z9) =>
            some (r8, z9)
set_option maxRecDepth 100000 in
set_option maxHeartbeats 4000000 in
theorem s_X10_join {z zR : q_Z} {l1 : Int32} {l2 : Int32} {rv : Int32} (h : F_X10_join z l1 l2 = some (rv, zR)) : q_Ca 134 [.ref 128, .int l1, .int l2] (q_K0, z.1, z.2, q_R0) (some (.int rv)) (q_K0, zR.1, zR.2, q_R0) := by
  refine q_Ca_of (by decide) (Nat.le_of_ble_eq_true rfl) ?_
  show q_Ex none 134 0 [(0, .ref 128), (1, .int l1), (2, .int l2)] [] (q_K0, z.1, z.2, q_R0) _ _
  unfold F_X10_join at h
  refine q_blk2 (pc2 := 7) (ls2 := [(0, .ref 128), (1, .int l1), (2, .int l2)]) (st2 := [.int l1, .ref 128]) (h2 := (q_K0, q_u2 z.1 128 3 0, z.2, q_R0)) [(.aload_n 0, 0, 0, 0, 0, 0), (.iconst 0, 0, 0, 0, 0, 0), (.putfield 57, 0, 9, 3, 0, 0), (.aload_n 0, 0, 0, 0, 0, 0), (.iload_n 1, 0, 0, 0, 0, 0)] (by decide +kernel) rfl rfl ⟨trivial, trivial, ⟨rfl, rfl, rfl⟩, trivial, trivial, trivial⟩ ?_
  obtain ⟨⟨r1, z2⟩, hc10, h⟩ := Option.bind_eq_some_iff.mp h
  dsimp only at h
  refine q_cV1 (idx := 180) (v := .int r1) (h1 := (q_K0, z2.1, z2.2, q_R0)) [.int l1, .ref 128] 127 128 9 [.int l1] [] rfl (by decide +kernel) (by decide +kernel) rfl (Nat.le_of_ble_eq_true rfl) rfl (by decide) (by decide +kernel) (by decide +kernel) (s_X10_isClass hc10) ?_
  refine q_if_eq (off := 11) (tgt := 21) (by decide +kernel) (by decide) (fun c10_1 => ?_) (fun c10_1 => ?_)
  · rw [if_pos c10_1] at h
    refine q_pick [0] rfl ?_
    exact t_X10_join_21 h
  · rw [if_neg c10_1] at h
    refine q_blk2 (pc2 := 15) (ls2 := [(0, .ref 128), (1, .int l1), (2, .int l2)]) (st2 := [.int l2, .ref 128]) (h2 := (q_K0, z2.1, z2.2, q_R0)) [(.aload_n 0, 0, 0, 0, 0, 0), (.iload_n 2, 0, 0, 0, 0, 0)] (by decide +kernel) rfl rfl ⟨trivial, trivial, trivial⟩ ?_
    obtain ⟨⟨r6, z7⟩, hc11, h⟩ := Option.bind_eq_some_iff.mp h
    dsimp only at h
    refine q_cV1 (idx := 180) (v := .int r6) (h1 := (q_K0, z7.1, z7.2, q_R0)) [.int l2, .ref 128] 127 128 9 [.int l2] [] rfl (by decide +kernel) (by decide +kernel) rfl (Nat.le_of_ble_eq_true rfl) rfl (by decide) (by decide +kernel) (by decide +kernel) (s_X10_isClass hc11) ?_
    refine q_if_ne (off := 9) (tgt := 27) (by decide +kernel) (by decide) (fun c18_2 => ?_) (fun c18_2 => ?_)
    · rw [if_neg c18_2] at h
      refine q_blk2 (pc2 := 35) (ls2 := [(0, .ref 128), (1, .int l1), (2, .int l2)]) (st2 := [.int l2, .int l1, .ref 128]) (h2 := (q_K0, q_u2 z7.1 128 2 0, z7.2, q_R0)) [(.aload_n 0, 0, 0, 0, 0, 0), (.iconst 0, 0, 0, 0, 0, 0), (.putfield 61, 0, 9, 2, 0, 0), (.aload_n 0, 0, 0, 0, 0, 0), (.iload_n 1, 0, 0, 0, 0, 0), (.iload_n 2, 0, 0, 0, 0, 0)] (by decide +kernel) rfl rfl ⟨trivial, trivial, ⟨rfl, rfl, rfl⟩, trivial, trivial, trivial, trivial⟩ ?_
      obtain ⟨⟨r8, z9⟩, hc12, h⟩ := Option.bind_eq_some_iff.mp h
      dsimp only at h
      refine q_cV1 (idx := 199) (v := .int r8) (h1 := (q_K0, z9.1, z9.2, q_R0)) [.int l2, .int l1, .ref 128] 133 128 9 [.int l1, .int l2] [] rfl (by decide +kernel) (by decide +kernel) rfl (Nat.le_of_ble_eq_true rfl) rfl (by decide) (by decide +kernel) (by decide +kernel) (s_X10_joined hc12) ?_
      cases h
      exact q_iret .int rfl rfl (by decide +kernel)
    · rw [if_pos c18_2] at h
      refine q_pick [0] rfl ?_
      exact t_X10_join_21 h
/-- RootFormsModel.back(I)I -/
def F_X10_back (z : q_Z) (l1 : Int32) : Option (Int32 × q_Z) :=
  (F_X10_isClass (q_u2 z.1 128 3 0, z.2) l1).bind fun (r1, z2) =>
    if r1 = (0 : Int32) then
      (F_X10_no z2 2).bind fun (r8, z9) =>
        some (r8, z9)
    else
      if 0 ≤ Int32.toInt l1 ∧ Int32.toInt l1 < 1000 then
        (F_X10_isForm (q_u2 z2.1 128 2 0, z2.2) (Int32.toInt64 (z2.1 137 (Int32.toNatClampNeg l1))) (Int32.toInt64 (-(z2.1 138 (Int32.toNatClampNeg l1))))).bind fun (r4, z5) =>
          (F_X10_classHere z5).bind fun (r6, z7) =>
            some (r6, z7)
      else none
set_option maxRecDepth 100000 in
set_option maxHeartbeats 4000000 in
theorem s_X10_back {z zR : q_Z} {l1 : Int32} {rv : Int32} (h : F_X10_back z l1 = some (rv, zR)) : q_Ca 135 [.ref 128, .int l1] (q_K0, z.1, z.2, q_R0) (some (.int rv)) (q_K0, zR.1, zR.2, q_R0) := by
  refine q_Ca_of (by decide) (Nat.le_of_ble_eq_true rfl) ?_
  show q_Ex none 135 0 [(0, .ref 128), (1, .int l1)] [] (q_K0, z.1, z.2, q_R0) _ _
  unfold F_X10_back at h
  refine q_blk2 (pc2 := 7) (ls2 := [(0, .ref 128), (1, .int l1)]) (st2 := [.int l1, .ref 128]) (h2 := (q_K0, q_u2 z.1 128 3 0, z.2, q_R0)) [(.aload_n 0, 0, 0, 0, 0, 0), (.iconst 0, 0, 0, 0, 0, 0), (.putfield 57, 0, 9, 3, 0, 0), (.aload_n 0, 0, 0, 0, 0, 0), (.iload_n 1, 0, 0, 0, 0, 0)] (by decide +kernel) rfl rfl ⟨trivial, trivial, ⟨rfl, rfl, rfl⟩, trivial, trivial, trivial⟩ ?_
  obtain ⟨⟨r1, z2⟩, hc10, h⟩ := Option.bind_eq_some_iff.mp h
  dsimp only at h
  refine q_cV1 (idx := 180) (v := .int r1) (h1 := (q_K0, z2.1, z2.2, q_R0)) [.int l1, .ref 128] 127 128 9 [.int l1] [] rfl (by decide +kernel) (by decide +kernel) rfl (Nat.le_of_ble_eq_true rfl) rfl (by decide) (by decide +kernel) (by decide +kernel) (s_X10_isClass hc10) ?_
  refine q_if_ne (off := 9) (tgt := 19) (by decide +kernel) (by decide) (fun c10_1 => ?_) (fun c10_1 => ?_)
  · rw [if_neg c10_1] at h
    have b3 : 0 ≤ Int32.toInt l1 ∧ Int32.toInt l1 < 1000 := by
      by_cases q : 0 ≤ Int32.toInt l1 ∧ Int32.toInt l1 < 1000
      · exact q
      · rw [if_neg q] at h; cases h
    rw [if_pos b3] at h
    refine q_blk2 (pc2 := 40) (ls2 := [(0, .ref 128), (1, .int l1)]) (st2 := [.long (Int32.toInt64 (-(z2.1 138 (Int32.toNatClampNeg l1)))), .long (Int32.toInt64 (z2.1 137 (Int32.toNatClampNeg l1))), .ref 128]) (h2 := (q_K0, q_u2 z2.1 128 2 0, z2.2, q_R0)) [(.aload_n 0, 0, 0, 0, 0, 0), (.iconst 0, 0, 0, 0, 0, 0), (.putfield 61, 0, 9, 2, 0, 0), (.aload_n 0, 0, 0, 0, 0, 0), (.aload_n 0, 0, 0, 0, 0, 0), (.getfield 35, 0, 9, 24, 0, 0), (.iload_n 1, 0, 0, 0, 0, 0), (.iaload, 0, 0, 0, 0, 0), (.i2l, 0, 0, 0, 0, 0), (.aload_n 0, 0, 0, 0, 0, 0), (.getfield 38, 0, 9, 25, 0, 0), (.iload_n 1, 0, 0, 0, 0, 0), (.iaload, 0, 0, 0, 0, 0), (.ineg, 0, 0, 0, 0, 0), (.i2l, 0, 0, 0, 0, 0)] (by decide +kernel) rfl rfl ⟨trivial, trivial, ⟨rfl, rfl, rfl⟩, trivial, trivial, rfl, trivial, ⟨_, rfl, vp_in_iff.mpr b3⟩, trivial, trivial, rfl, trivial, ⟨_, rfl, vp_in_iff.mpr b3⟩, trivial, trivial, trivial⟩ ?_
    obtain ⟨⟨r4, z5⟩, hc11, h⟩ := Option.bind_eq_some_iff.mp h
    dsimp only at h
    refine q_cV1 (idx := 119) (v := .int r4) (h1 := (q_K0, z5.1, z5.2, q_R0)) [.long (Int32.toInt64 (-(z2.1 138 (Int32.toNatClampNeg l1)))), .long (Int32.toInt64 (z2.1 137 (Int32.toNatClampNeg l1))), .ref 128] 105 128 9 [.long (Int32.toInt64 (z2.1 137 (Int32.toNatClampNeg l1))), .long (Int32.toInt64 (-(z2.1 138 (Int32.toNatClampNeg l1))))] [] rfl (by decide +kernel) (by decide +kernel) rfl (Nat.le_of_ble_eq_true rfl) rfl (by decide) (by decide +kernel) (by decide +kernel) (s_X10_isForm hc11) ?_
    refine q_blk2 (pc2 := 45) (ls2 := [(2, .int r4), (0, .ref 128), (1, .int l1)]) (st2 := [.ref 128]) (h2 := (q_K0, z5.1, z5.2, q_R0)) [(.istore_n 2, 0, 0, 0, 0, 0), (.aload_n 0, 0, 0, 0, 0, 0)] (by decide +kernel) rfl rfl ⟨trivial, trivial, trivial⟩ ?_
    obtain ⟨⟨r6, z7⟩, hc12, h⟩ := Option.bind_eq_some_iff.mp h
    dsimp only at h
    refine q_cV1 (idx := 177) (v := .int r6) (h1 := (q_K0, z7.1, z7.2, q_R0)) [.ref 128] 112 128 9 [] [] rfl (by decide +kernel) (by decide +kernel) rfl (Nat.le_of_ble_eq_true rfl) rfl (by decide) (by decide +kernel) (by decide +kernel) (s_X10_classHere hc12) ?_
    cases h
    exact q_iret .int rfl rfl (by decide +kernel)
  · rw [if_pos c10_1] at h
    refine q_blk2 (pc2 := 15) (ls2 := [(0, .ref 128), (1, .int l1)]) (st2 := [.int 2, .ref 128]) (h2 := (q_K0, z2.1, z2.2, q_R0)) [(.aload_n 0, 0, 0, 0, 0, 0), (.iconst 2, 0, 0, 0, 2, 0)] (by decide +kernel) rfl rfl ⟨trivial, trivial, trivial⟩ ?_
    obtain ⟨⟨r8, z9⟩, hc13, h⟩ := Option.bind_eq_some_iff.mp h
    dsimp only at h
    refine q_cV1 (idx := 152) (v := .int r8) (h1 := (q_K0, z9.1, z9.2, q_R0)) [.int 2, .ref 128] 98 128 9 [.int 2] [] rfl (by decide +kernel) (by decide +kernel) rfl (Nat.le_of_ble_eq_true rfl) rfl (by decide) (by decide +kernel) (by decide +kernel) (s_X10_no hc13) ?_
    cases h
    exact q_iret .int rfl rfl (by decide +kernel)
def B_X10_orderOf_10 : Int32 × Int32 × Int32 × Int32 × q_Z → Option ((Int32 × Int32 × Int32 × Int32 × q_Z) × Nat) := fun (l1, l2, l3, l4, z) =>
  if l4 = l2 then
    some ((l1, l2, l3, l4, z), 1)
  else
    (F_X10_joined z l4 l1).bind fun (r3, z4) =>
      some ((l1, l2, l3 + 1, r3, z4), 0)
set_option maxRecDepth 100000 in
set_option maxHeartbeats 4000000 in
theorem b_X10_orderOf_10 {s s2 : Int32 × Int32 × Int32 × Int32 × q_Z} {t : Nat} {r : Option Value} {h2 : q_H} (h : B_X10_orderOf_10 s = some (s2, t)) (k0 : t = 0 → q_Ex none 136 10 [(0, .ref 128), (1, .int s2.1), (2, .int s2.2.1), (3, .int s2.2.2.1), (4, .int s2.2.2.2.1)] [] (q_K0, s2.2.2.2.2.1, s2.2.2.2.2.2, q_R0) r h2) (k1 : t = 1 → q_Ex none 136 31 [(0, .ref 128), (1, .int s2.1), (2, .int s2.2.1), (3, .int s2.2.2.1), (4, .int s2.2.2.2.1)] [] (q_K0, s2.2.2.2.2.1, s2.2.2.2.2.2, q_R0) r h2) : q_Ex none 136 10 [(0, .ref 128), (1, .int s.1), (2, .int s.2.1), (3, .int s.2.2.1), (4, .int s.2.2.2.1)] [] (q_K0, s.2.2.2.2.1, s.2.2.2.2.2, q_R0) r h2 := by
  unfold B_X10_orderOf_10 at h
  obtain ⟨l1, l2, l3, l4, z⟩ := s
  dsimp only at h
  show q_Ex none 136 10 [(0, .ref 128), (1, .int l1), (2, .int l2), (3, .int l3), (4, .int l4)] [] (q_K0, z.1, z.2, q_R0) r h2
  refine q_blk2 (pc2 := 13) (ls2 := [(0, .ref 128), (1, .int l1), (2, .int l2), (3, .int l3), (4, .int l4)]) (st2 := [.int l2, .int l4]) (h2 := (q_K0, z.1, z.2, q_R0)) [(.iload 4, 0, 0, 0, 0, 0), (.iload_n 2, 0, 0, 0, 0, 0)] (by decide +kernel) rfl rfl ⟨trivial, trivial, trivial⟩ ?_
  refine q_ic_eq (off := 18) (tgt := 31) (by decide +kernel) (by decide) (fun c13_1 => ?_) (fun c13_1 => ?_)
  · rw [if_pos c13_1] at h
    cases h
    refine q_pick [0, 1, 2, 3, 4] rfl ?_
    exact k1 rfl
  · rw [if_neg c13_1] at h
    refine q_blk2 (pc2 := 23) (ls2 := [(3, .int (l3 + 1)), (0, .ref 128), (1, .int l1), (2, .int l2), (4, .int l4)]) (st2 := [.int l1, .int l4, .ref 128]) (h2 := (q_K0, z.1, z.2, q_R0)) [(.iinc 3 1, 0, 0, 0, 1, 0), (.aload_n 0, 0, 0, 0, 0, 0), (.iload 4, 0, 0, 0, 0, 0), (.iload_n 1, 0, 0, 0, 0, 0)] (by decide +kernel) rfl rfl ⟨trivial, trivial, trivial, trivial, trivial⟩ ?_
    obtain ⟨⟨r3, z4⟩, hc5, h⟩ := Option.bind_eq_some_iff.mp h
    dsimp only at h
    refine q_cV1 (idx := 199) (v := .int r3) (h1 := (q_K0, z4.1, z4.2, q_R0)) [.int l1, .int l4, .ref 128] 133 128 9 [.int l4, .int l1] [] rfl (by decide +kernel) (by decide +kernel) rfl (Nat.le_of_ble_eq_true rfl) rfl (by decide) (by decide +kernel) (by decide +kernel) (s_X10_joined hc5) ?_
    refine q_blk2 (pc2 := 28) (ls2 := [(4, .int r3), (3, .int (l3 + 1)), (0, .ref 128), (1, .int l1), (2, .int l2)]) (st2 := []) (h2 := (q_K0, z4.1, z4.2, q_R0)) [(.istore 4, 0, 0, 0, 0, 0)] (by decide +kernel) rfl rfl ⟨trivial, trivial⟩ ?_
    refine q_goto (off := -18) (tgt := 10) (by decide +kernel) (by decide) ?_
    cases h
    refine q_pick [2, 3, 4, 1, 0] rfl ?_
    exact k0 rfl
/-- RootFormsModel.orderOf(I)I -/
def F_X10_orderOf (z : q_Z) (l1 : Int32) : Option (Int32 × q_Z) :=
  (F_X10_oneOf z).bind fun (r1, z2) =>
    (q_lp (B_X10_orderOf_10) q_fu (l1, r1, 1, l1, z2)).bind fun ((w7, w8, w9, w10, z6), tg) =>
      if tg = 0 then
        some (w9, z6)
      else none
set_option maxRecDepth 100000 in
set_option maxHeartbeats 4000000 in
theorem s_X10_orderOf {z zR : q_Z} {l1 : Int32} {rv : Int32} (h : F_X10_orderOf z l1 = some (rv, zR)) : q_Ca 136 [.ref 128, .int l1] (q_K0, z.1, z.2, q_R0) (some (.int rv)) (q_K0, zR.1, zR.2, q_R0) := by
  refine q_Ca_of (by decide) (Nat.le_of_ble_eq_true rfl) ?_
  show q_Ex none 136 0 [(0, .ref 128), (1, .int l1)] [] (q_K0, z.1, z.2, q_R0) _ _
  unfold F_X10_orderOf at h
  refine q_blk2 (pc2 := 1) (ls2 := [(0, .ref 128), (1, .int l1)]) (st2 := [.ref 128]) (h2 := (q_K0, z.1, z.2, q_R0)) [(.aload_n 0, 0, 0, 0, 0, 0)] (by decide +kernel) rfl rfl ⟨trivial, trivial⟩ ?_
  obtain ⟨⟨r1, z2⟩, hc11, h⟩ := Option.bind_eq_some_iff.mp h
  dsimp only at h
  refine q_cV1 (idx := 183) (v := .int r1) (h1 := (q_K0, z2.1, z2.2, q_R0)) [.ref 128] 130 128 9 [] [] rfl (by decide +kernel) (by decide +kernel) rfl (Nat.le_of_ble_eq_true rfl) rfl (by decide) (by decide +kernel) (by decide +kernel) (s_X10_oneOf hc11) ?_
  refine q_blk2 (pc2 := 10) (ls2 := [(4, .int l1), (3, .int 1), (2, .int r1), (0, .ref 128), (1, .int l1)]) (st2 := []) (h2 := (q_K0, z2.1, z2.2, q_R0)) [(.istore_n 2, 0, 0, 0, 0, 0), (.iconst 1, 0, 0, 0, 1, 0), (.istore_n 3, 0, 0, 0, 0, 0), (.iload_n 1, 0, 0, 0, 0, 0), (.istore 4, 0, 0, 0, 0, 0)] (by decide +kernel) rfl rfl ⟨trivial, trivial, trivial, trivial, trivial, trivial⟩ ?_
  obtain ⟨⟨⟨w7, w8, w9, w10, z6⟩, tg13⟩, hl12, h⟩ := Option.bind_eq_some_iff.mp h
  dsimp only at h
  refine q_pick [3, 4, 2, 1, 0] rfl ?_
  refine q_lp_ok (P := fun s => q_Ex _ 136 10 [(0, .ref 128), (1, .int s.1), (2, .int s.2.1), (3, .int s.2.2.1), (4, .int s.2.2.2.1)] [] (q_K0, s.2.2.2.2.1, s.2.2.2.2.2, q_R0) _ _) (X := fun u s => (u = 0 → q_Ex _ 136 31 [(0, .ref 128), (1, .int s.1), (2, .int s.2.1), (3, .int s.2.2.1), (4, .int s.2.2.2.1)] [] (q_K0, s.2.2.2.2.1, s.2.2.2.2.2, q_R0) _ _)) (fun s s2 t hh k0 kx => b_X10_orderOf_10 hh k0 (fun e => (kx 0 e) rfl)) hl12 ?_
  · intro e_tg13
    subst e_tg13
    rw [if_pos rfl] at h
    show q_Ex _ 136 31 [(0, .ref 128), (1, .int w7), (2, .int w8), (3, .int w9), (4, .int w10)] [] (q_K0, z6.1, z6.2, q_R0) _ _
    refine q_blk2 (pc2 := 32) (ls2 := [(0, .ref 128), (1, .int w7), (2, .int w8), (3, .int w9), (4, .int w10)]) (st2 := [.int w9]) (h2 := (q_K0, z6.1, z6.2, q_R0)) [(.iload_n 3, 0, 0, 0, 0, 0)] (by decide +kernel) rfl rfl ⟨trivial, trivial⟩ ?_
    cases h
    exact q_iret .int rfl rfl (by decide +kernel)
/-- RootFormsModel.order(I)I -/
def F_X10_order (z : q_Z) (l1 : Int32) : Option (Int32 × q_Z) :=
  (F_X10_isClass (q_u2 z.1 128 3 0, z.2) l1).bind fun (r1, z2) =>
    if r1 = (0 : Int32) then
      (F_X10_no z2 2).bind fun (r5, z6) =>
        some (r5, z6)
    else
      (F_X10_orderOf (q_u2 z2.1 128 2 0, z2.2) l1).bind fun (r3, z4) =>
        some (r3, z4)
set_option maxRecDepth 100000 in
set_option maxHeartbeats 4000000 in
theorem s_X10_order {z zR : q_Z} {l1 : Int32} {rv : Int32} (h : F_X10_order z l1 = some (rv, zR)) : q_Ca 137 [.ref 128, .int l1] (q_K0, z.1, z.2, q_R0) (some (.int rv)) (q_K0, zR.1, zR.2, q_R0) := by
  refine q_Ca_of (by decide) (Nat.le_of_ble_eq_true rfl) ?_
  show q_Ex none 137 0 [(0, .ref 128), (1, .int l1)] [] (q_K0, z.1, z.2, q_R0) _ _
  unfold F_X10_order at h
  refine q_blk2 (pc2 := 7) (ls2 := [(0, .ref 128), (1, .int l1)]) (st2 := [.int l1, .ref 128]) (h2 := (q_K0, q_u2 z.1 128 3 0, z.2, q_R0)) [(.aload_n 0, 0, 0, 0, 0, 0), (.iconst 0, 0, 0, 0, 0, 0), (.putfield 57, 0, 9, 3, 0, 0), (.aload_n 0, 0, 0, 0, 0, 0), (.iload_n 1, 0, 0, 0, 0, 0)] (by decide +kernel) rfl rfl ⟨trivial, trivial, ⟨rfl, rfl, rfl⟩, trivial, trivial, trivial⟩ ?_
  obtain ⟨⟨r1, z2⟩, hc7, h⟩ := Option.bind_eq_some_iff.mp h
  dsimp only at h
  refine q_cV1 (idx := 180) (v := .int r1) (h1 := (q_K0, z2.1, z2.2, q_R0)) [.int l1, .ref 128] 127 128 9 [.int l1] [] rfl (by decide +kernel) (by decide +kernel) rfl (Nat.le_of_ble_eq_true rfl) rfl (by decide) (by decide +kernel) (by decide +kernel) (s_X10_isClass hc7) ?_
  refine q_if_ne (off := 9) (tgt := 19) (by decide +kernel) (by decide) (fun c10_1 => ?_) (fun c10_1 => ?_)
  · rw [if_neg c10_1] at h
    refine q_blk2 (pc2 := 26) (ls2 := [(0, .ref 128), (1, .int l1)]) (st2 := [.int l1, .ref 128]) (h2 := (q_K0, q_u2 z2.1 128 2 0, z2.2, q_R0)) [(.aload_n 0, 0, 0, 0, 0, 0), (.iconst 0, 0, 0, 0, 0, 0), (.putfield 61, 0, 9, 2, 0, 0), (.aload_n 0, 0, 0, 0, 0, 0), (.iload_n 1, 0, 0, 0, 0, 0)] (by decide +kernel) rfl rfl ⟨trivial, trivial, ⟨rfl, rfl, rfl⟩, trivial, trivial, trivial⟩ ?_
    obtain ⟨⟨r3, z4⟩, hc8, h⟩ := Option.bind_eq_some_iff.mp h
    dsimp only at h
    refine q_cV1 (idx := 203) (v := .int r3) (h1 := (q_K0, z4.1, z4.2, q_R0)) [.int l1, .ref 128] 136 128 9 [.int l1] [] rfl (by decide +kernel) (by decide +kernel) rfl (Nat.le_of_ble_eq_true rfl) rfl (by decide) (by decide +kernel) (by decide +kernel) (s_X10_orderOf hc8) ?_
    cases h
    exact q_iret .int rfl rfl (by decide +kernel)
  · rw [if_pos c10_1] at h
    refine q_blk2 (pc2 := 15) (ls2 := [(0, .ref 128), (1, .int l1)]) (st2 := [.int 2, .ref 128]) (h2 := (q_K0, z2.1, z2.2, q_R0)) [(.aload_n 0, 0, 0, 0, 0, 0), (.iconst 2, 0, 0, 0, 2, 0)] (by decide +kernel) rfl rfl ⟨trivial, trivial, trivial⟩ ?_
    obtain ⟨⟨r5, z6⟩, hc9, h⟩ := Option.bind_eq_some_iff.mp h
    dsimp only at h
    refine q_cV1 (idx := 152) (v := .int r5) (h1 := (q_K0, z6.1, z6.2, q_R0)) [.int 2, .ref 128] 98 128 9 [.int 2] [] rfl (by decide +kernel) (by decide +kernel) rfl (Nat.le_of_ble_eq_true rfl) rfl (by decide) (by decide +kernel) (by decide +kernel) (s_X10_no hc9) ?_
    cases h
    exact q_iret .int rfl rfl (by decide +kernel)
