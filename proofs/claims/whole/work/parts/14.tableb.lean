/-! pure functions of the methods, and that the methods do what they say (written by wip/whole/dec.py) -/
def T_X0_joined_79 (z : q_Z) : Option (Int32 × q_Z) :=
  some ((-1), z)
set_option maxRecDepth 100000 in
set_option maxHeartbeats 4000000 in
theorem t_X0_joined_79 {z zR : q_Z} {rv : Int32} (h : T_X0_joined_79 z = some (rv, zR)) : q_Ex none 10 79 [] [] (q_K0, z.1, z.2, q_R0) (some (.int rv)) (q_K0, zR.1, zR.2, q_R0) := by
  unfold T_X0_joined_79 at h
  refine q_blk2 (pc2 := 80) (ls2 := []) (st2 := [.int (-1)]) (h2 := (q_K0, z.1, z.2, q_R0)) [(.iconst (-1), 0, 0, 0, (-1), 0)] (by decide +kernel) rfl rfl ⟨trivial, trivial⟩ ?_
  cases h
  exact q_iret .int rfl rfl (by decide +kernel)
/-- RootForms$ClassTable.joined(II)I -/
def F_X0_joined (z : q_Z) (l1 : Int32) (l2 : Int32) : Option (Int32 × q_Z) :=
  (F_X0_copyHead 11 z l1).bind fun (_, z2) =>
    (F_X0_copyHead 12 z2 l2).bind fun (_, z4) =>
      (F_X7_commonDivisor z4 (z4.2 11 0) (z4.2 12 0)).bind fun (r5, z6) =>
        (F_X7_commonDivisor z6 r5 (((z4.2 11 1) + (z4.2 12 1)) / 2)).bind fun (r7, z8) =>
          if r5 = (0 : Int64) then
            T_X0_joined_79 z8
          else
            if r7 = (0 : Int64) then
              T_X0_joined_79 z8
            else
              (F_X7_factorToDivisor z8 (z8.2 12 0) (z8.2 11 0)).bind fun (r9, z10) =>
                (F_X7_factorToDivisor z10 (((z4.2 11 1) + (z4.2 12 1)) / 2) r5).bind fun (r11, z12) =>
                  if ¬ r5 = (0 : Int64) then
                    if ¬ r7 = (0 : Int64) then
                      if ((z12.2 11 0) / r7) = (0 : Int64) then
                        some ((-1), z12)
                      else
                        (F_J9_floorMod_f86c9 z12 ((((-r9) * ((r7 - (r11 * (((z4.2 11 1) + (z4.2 12 1)) / 2))) / r5)) * ((z12.2 12 1) - (((z4.2 11 1) + (z4.2 12 1)) / 2))) - (r11 * (z12.2 12 2))) ((z12.2 11 0) / r7)).bind fun (r15, z16) =>
                          (F_X2_complete 11 z16 (((z12.2 11 0) / r7) * ((z12.2 12 0) / r7)) ((z16.2 12 1) + ((2 * ((z12.2 12 0) / r7)) * r15))).bind fun (r17, z18) =>
                            if r17 = (0 : Int32) then
                              some ((-1), z18)
                            else
                              (F_X0_find 11 z18).bind fun (r19, z20) =>
                                some (r19, z20)
                    else none
                  else none
set_option maxRecDepth 100000 in
set_option maxHeartbeats 4000000 in
theorem s_X0_joined {z zR : q_Z} {l1 : Int32} {l2 : Int32} {rv : Int32} (h : F_X0_joined z l1 l2 = some (rv, zR)) : q_Ca 10 [.ref 3, .int l1, .int l2] (q_K0, z.1, z.2, q_R0) (some (.int rv)) (q_K0, zR.1, zR.2, q_R0) := by
  refine q_Ca_of (by decide) (Nat.le_of_ble_eq_true rfl) ?_
  show q_Ex none 10 0 [(0, .ref 3), (1, .int l1), (2, .int l2)] [] (q_K0, z.1, z.2, q_R0) _ _
  unfold F_X0_joined at h
  refine q_blk2 (pc2 := 6) (ls2 := [(0, .ref 3), (1, .int l1), (2, .int l2)]) (st2 := [.ref 11, .int l1, .ref 3]) (h2 := (q_K0, z.1, z.2, q_R0)) [(.aload_n 0, 0, 0, 0, 0, 0), (.iload_n 1, 0, 0, 0, 0, 0), (.aload_n 0, 0, 0, 0, 0, 0), (.getfield 41, 0, 0, 7, 0, 0)] (by decide +kernel) rfl rfl ⟨trivial, trivial, trivial, rfl, trivial⟩ ?_
  obtain ⟨⟨_, z2⟩, hc21, h⟩ := Option.bind_eq_some_iff.mp h
  dsimp only at h
  refine q_cV0 (idx := 131) (h1 := (q_K0, z2.1, z2.2, q_R0)) [.ref 11, .int l1, .ref 3] 9 3 0 [.int l1, .ref 11] [] rfl (by decide +kernel) (by decide +kernel) rfl (Nat.le_of_ble_eq_true rfl) rfl (by decide) (by decide +kernel) (by decide +kernel) (s_X0_copyHead rfl hc21) ?_
  refine q_blk2 (pc2 := 15) (ls2 := [(0, .ref 3), (1, .int l1), (2, .int l2)]) (st2 := [.ref 12, .int l2, .ref 3]) (h2 := (q_K0, z2.1, z2.2, q_R0)) [(.aload_n 0, 0, 0, 0, 0, 0), (.iload_n 2, 0, 0, 0, 0, 0), (.aload_n 0, 0, 0, 0, 0, 0), (.getfield 44, 0, 0, 8, 0, 0)] (by decide +kernel) rfl rfl ⟨trivial, trivial, trivial, rfl, trivial⟩ ?_
  obtain ⟨⟨_, z4⟩, hc22, h⟩ := Option.bind_eq_some_iff.mp h
  dsimp only at h
  refine q_cV0 (idx := 131) (h1 := (q_K0, z4.1, z4.2, q_R0)) [.ref 12, .int l2, .ref 3] 9 3 0 [.int l2, .ref 12] [] rfl (by decide +kernel) (by decide +kernel) rfl (Nat.le_of_ble_eq_true rfl) rfl (by decide) (by decide +kernel) (by decide +kernel) (s_X0_copyHead rfl hc22) ?_
  refine q_blk2 (pc2 := 52) (ls2 := [(3, .long (((z4.2 11 1) + (z4.2 12 1)) / 2)), (0, .ref 3), (1, .int l1), (2, .int l2)]) (st2 := [.long (z4.2 12 0), .long (z4.2 11 0)]) (h2 := (q_K0, z4.1, z4.2, q_R0)) [(.aload_n 0, 0, 0, 0, 0, 0), (.getfield 41, 0, 0, 7, 0, 0), (.getfield 112, 0, 1, 1, 0, 0), (.aload_n 0, 0, 0, 0, 0, 0), (.getfield 44, 0, 0, 8, 0, 0), (.getfield 112, 0, 1, 1, 0, 0), (.ladd, 0, 0, 0, 0, 0), (.ldc2_w 135, 0, 0, 0, 0, 2), (.ldiv, 0, 0, 0, 0, 0), (.lstore_n 3, 0, 0, 0, 0, 0), (.aload_n 0, 0, 0, 0, 0, 0), (.getfield 41, 0, 0, 7, 0, 0), (.getfield 108, 0, 1, 0, 0, 0), (.aload_n 0, 0, 0, 0, 0, 0), (.getfield 44, 0, 0, 8, 0, 0), (.getfield 108, 0, 1, 0, 0, 0)] (by decide +kernel) rfl rfl ⟨trivial, rfl, rfl, trivial, rfl, rfl, trivial, trivial, (by decide), trivial, trivial, rfl, rfl, trivial, rfl, rfl, trivial⟩ ?_
  obtain ⟨⟨r5, z6⟩, hc23, h⟩ := Option.bind_eq_some_iff.mp h
  dsimp only at h
  refine q_cS1 (idx := 137) (v := .long r5) (h1 := (q_K0, z6.1, z6.2, q_R0)) [.long (z4.2 12 0), .long (z4.2 11 0)] 50 [.long (z4.2 11 0), .long (z4.2 12 0)] [] rfl (by decide +kernel) (by decide +kernel) rfl (Nat.le_of_ble_eq_true rfl) (by decide +kernel) (s_X7_commonDivisor hc23) ?_
  refine q_blk2 (pc2 := 60) (ls2 := [(5, .long r5), (3, .long (((z4.2 11 1) + (z4.2 12 1)) / 2)), (0, .ref 3), (1, .int l1), (2, .int l2)]) (st2 := [.long (((z4.2 11 1) + (z4.2 12 1)) / 2), .long r5]) (h2 := (q_K0, z6.1, z6.2, q_R0)) [(.lstore 5, 0, 0, 0, 0, 0), (.lload 5, 0, 0, 0, 0, 0), (.lload_n 3, 0, 0, 0, 0, 0)] (by decide +kernel) rfl rfl ⟨trivial, trivial, trivial, trivial⟩ ?_
  obtain ⟨⟨r7, z8⟩, hc24, h⟩ := Option.bind_eq_some_iff.mp h
  dsimp only at h
  refine q_cS1 (idx := 137) (v := .long r7) (h1 := (q_K0, z8.1, z8.2, q_R0)) [.long (((z4.2 11 1) + (z4.2 12 1)) / 2), .long r5] 50 [.long r5, .long (((z4.2 11 1) + (z4.2 12 1)) / 2)] [] rfl (by decide +kernel) (by decide +kernel) rfl (Nat.le_of_ble_eq_true rfl) (by decide +kernel) (s_X7_commonDivisor hc24) ?_
  refine q_blk2 (pc2 := 68) (ls2 := [(7, .long r7), (5, .long r5), (3, .long (((z4.2 11 1) + (z4.2 12 1)) / 2)), (0, .ref 3), (1, .int l1), (2, .int l2)]) (st2 := [.long 0, .long r5]) (h2 := (q_K0, z8.1, z8.2, q_R0)) [(.lstore 7, 0, 0, 0, 0, 0), (.lload 5, 0, 0, 0, 0, 0), (.lconst 0, 0, 0, 0, 0, 0)] (by decide +kernel) rfl rfl ⟨trivial, trivial, trivial, trivial⟩ ?_
  refine q_lc_eq (off := 10) (tgt := 79) (by decide +kernel) (by decide +kernel) (by decide) (fun c68_1 => ?_) (fun c68_1 => ?_)
  · rw [if_pos c68_1] at h
    refine q_pick [] rfl ?_
    exact t_X0_joined_79 h
  · rw [if_neg c68_1] at h
    refine q_blk2 (pc2 := 75) (ls2 := [(7, .long r7), (5, .long r5), (3, .long (((z4.2 11 1) + (z4.2 12 1)) / 2)), (0, .ref 3), (1, .int l1), (2, .int l2)]) (st2 := [.long 0, .long r7]) (h2 := (q_K0, z8.1, z8.2, q_R0)) [(.lload 7, 0, 0, 0, 0, 0), (.lconst 0, 0, 0, 0, 0, 0)] (by decide +kernel) rfl rfl ⟨trivial, trivial, trivial⟩ ?_
    refine q_lc_ne (off := 5) (tgt := 81) (by decide +kernel) (by decide +kernel) (by decide) (fun c75_2 => ?_) (fun c75_2 => ?_)
    · rw [if_neg c75_2] at h
      refine q_blk2 (pc2 := 95) (ls2 := [(7, .long r7), (5, .long r5), (3, .long (((z4.2 11 1) + (z4.2 12 1)) / 2)), (0, .ref 3), (1, .int l1), (2, .int l2)]) (st2 := [.long (z8.2 11 0), .long (z8.2 12 0)]) (h2 := (q_K0, z8.1, z8.2, q_R0)) [(.aload_n 0, 0, 0, 0, 0, 0), (.getfield 44, 0, 0, 8, 0, 0), (.getfield 108, 0, 1, 0, 0, 0), (.aload_n 0, 0, 0, 0, 0, 0), (.getfield 41, 0, 0, 7, 0, 0), (.getfield 108, 0, 1, 0, 0, 0)] (by decide +kernel) rfl rfl ⟨trivial, rfl, rfl, trivial, rfl, rfl, trivial⟩ ?_
      obtain ⟨⟨r9, z10⟩, hc25, h⟩ := Option.bind_eq_some_iff.mp h
      dsimp only at h
      refine q_cS1 (idx := 141) (v := .long r9) (h1 := (q_K0, z10.1, z10.2, q_R0)) [.long (z8.2 11 0), .long (z8.2 12 0)] 51 [.long (z8.2 12 0), .long (z8.2 11 0)] [] rfl (by decide +kernel) (by decide +kernel) rfl (Nat.le_of_ble_eq_true rfl) (by decide +kernel) (s_X7_factorToDivisor hc25) ?_
      refine q_blk2 (pc2 := 103) (ls2 := [(9, .long r9), (7, .long r7), (5, .long r5), (3, .long (((z4.2 11 1) + (z4.2 12 1)) / 2)), (0, .ref 3), (1, .int l1), (2, .int l2)]) (st2 := [.long r5, .long (((z4.2 11 1) + (z4.2 12 1)) / 2)]) (h2 := (q_K0, z10.1, z10.2, q_R0)) [(.lstore 9, 0, 0, 0, 0, 0), (.lload_n 3, 0, 0, 0, 0, 0), (.lload 5, 0, 0, 0, 0, 0)] (by decide +kernel) rfl rfl ⟨trivial, trivial, trivial, trivial⟩ ?_
      obtain ⟨⟨r11, z12⟩, hc26, h⟩ := Option.bind_eq_some_iff.mp h
      dsimp only at h
      refine q_cS1 (idx := 141) (v := .long r11) (h1 := (q_K0, z12.1, z12.2, q_R0)) [.long r5, .long (((z4.2 11 1) + (z4.2 12 1)) / 2)] 51 [.long (((z4.2 11 1) + (z4.2 12 1)) / 2), .long r5] [] rfl (by decide +kernel) (by decide +kernel) rfl (Nat.le_of_ble_eq_true rfl) (by decide +kernel) (s_X7_factorToDivisor hc26) ?_
      have b13 : ¬ r5 = (0 : Int64) := by
        by_cases q : ¬ r5 = (0 : Int64)
        · exact q
        · rw [if_neg q] at h; cases h
      rw [if_pos b13] at h
      have b14 : ¬ r7 = (0 : Int64) := by
        by_cases q : ¬ r7 = (0 : Int64)
        · exact q
        · rw [if_neg q] at h; cases h
      rw [if_pos b14] at h
      refine q_blk2 (pc2 := 147) (ls2 := [(17, .long ((z12.2 12 0) / r7)), (15, .long ((z12.2 11 0) / r7)), (13, .long ((r7 - (r11 * (((z4.2 11 1) + (z4.2 12 1)) / 2))) / r5)), (11, .long r11), (9, .long r9), (7, .long r7), (5, .long r5), (3, .long (((z4.2 11 1) + (z4.2 12 1)) / 2)), (0, .ref 3), (1, .int l1), (2, .int l2)]) (st2 := [.long 0, .long ((z12.2 11 0) / r7)]) (h2 := (q_K0, z12.1, z12.2, q_R0)) [(.lstore 11, 0, 0, 0, 0, 0), (.lload 7, 0, 0, 0, 0, 0), (.lload 11, 0, 0, 0, 0, 0), (.lload_n 3, 0, 0, 0, 0, 0), (.lmul, 0, 0, 0, 0, 0), (.lsub, 0, 0, 0, 0, 0), (.lload 5, 0, 0, 0, 0, 0), (.ldiv, 0, 0, 0, 0, 0), (.lstore 13, 0, 0, 0, 0, 0), (.aload_n 0, 0, 0, 0, 0, 0), (.getfield 41, 0, 0, 7, 0, 0), (.getfield 108, 0, 1, 0, 0, 0), (.lload 7, 0, 0, 0, 0, 0), (.ldiv, 0, 0, 0, 0, 0), (.lstore 15, 0, 0, 0, 0, 0), (.aload_n 0, 0, 0, 0, 0, 0), (.getfield 44, 0, 0, 8, 0, 0), (.getfield 108, 0, 1, 0, 0, 0), (.lload 7, 0, 0, 0, 0, 0), (.ldiv, 0, 0, 0, 0, 0), (.lstore 17, 0, 0, 0, 0, 0), (.lload 15, 0, 0, 0, 0, 0), (.lconst 0, 0, 0, 0, 0, 0)] (by decide +kernel) rfl rfl ⟨trivial, trivial, trivial, trivial, trivial, trivial, trivial, b13, trivial, trivial, rfl, rfl, trivial, b14, trivial, trivial, rfl, rfl, trivial, b14, trivial, trivial, trivial, trivial⟩ ?_
      refine q_lc_ne (off := 5) (tgt := 153) (by decide +kernel) (by decide +kernel) (by decide) (fun c147_3 => ?_) (fun c147_3 => ?_)
      · rw [if_neg c147_3] at h
        refine q_blk2 (pc2 := 182) (ls2 := [(17, .long ((z12.2 12 0) / r7)), (15, .long ((z12.2 11 0) / r7)), (13, .long ((r7 - (r11 * (((z4.2 11 1) + (z4.2 12 1)) / 2))) / r5)), (11, .long r11), (9, .long r9), (7, .long r7), (5, .long r5), (3, .long (((z4.2 11 1) + (z4.2 12 1)) / 2)), (0, .ref 3), (1, .int l1), (2, .int l2)]) (st2 := [.long ((z12.2 11 0) / r7), .long ((((-r9) * ((r7 - (r11 * (((z4.2 11 1) + (z4.2 12 1)) / 2))) / r5)) * ((z12.2 12 1) - (((z4.2 11 1) + (z4.2 12 1)) / 2))) - (r11 * (z12.2 12 2)))]) (h2 := (q_K0, z12.1, z12.2, q_R0)) [(.lload 9, 0, 0, 0, 0, 0), (.lneg, 0, 0, 0, 0, 0), (.lload 13, 0, 0, 0, 0, 0), (.lmul, 0, 0, 0, 0, 0), (.aload_n 0, 0, 0, 0, 0, 0), (.getfield 44, 0, 0, 8, 0, 0), (.getfield 112, 0, 1, 1, 0, 0), (.lload_n 3, 0, 0, 0, 0, 0), (.lsub, 0, 0, 0, 0, 0), (.lmul, 0, 0, 0, 0, 0), (.lload 11, 0, 0, 0, 0, 0), (.aload_n 0, 0, 0, 0, 0, 0), (.getfield 44, 0, 0, 8, 0, 0), (.getfield 144, 0, 1, 2, 0, 0), (.lmul, 0, 0, 0, 0, 0), (.lsub, 0, 0, 0, 0, 0), (.lload 15, 0, 0, 0, 0, 0)] (by decide +kernel) rfl rfl ⟨trivial, trivial, trivial, trivial, trivial, rfl, rfl, trivial, trivial, trivial, trivial, trivial, rfl, rfl, trivial, trivial, trivial, trivial⟩ ?_
        obtain ⟨⟨r15, z16⟩, hc27, h⟩ := Option.bind_eq_some_iff.mp h
        dsimp only at h
        refine q_cS1 (idx := 147) (v := .long r15) (h1 := (q_K0, z16.1, z16.2, q_R0)) [.long ((z12.2 11 0) / r7), .long ((((-r9) * ((r7 - (r11 * (((z4.2 11 1) + (z4.2 12 1)) / 2))) / r5)) * ((z12.2 12 1) - (((z4.2 11 1) + (z4.2 12 1)) / 2))) - (r11 * (z12.2 12 2)))] 158 [.long ((((-r9) * ((r7 - (r11 * (((z4.2 11 1) + (z4.2 12 1)) / 2))) / r5)) * ((z12.2 12 1) - (((z4.2 11 1) + (z4.2 12 1)) / 2))) - (r11 * (z12.2 12 2))), .long ((z12.2 11 0) / r7)] [] rfl (by decide +kernel) (by decide +kernel) rfl (Nat.le_of_ble_eq_true rfl) (by decide +kernel) (s_J9_floorMod_f86c9 hc27) ?_
        refine q_blk2 (pc2 := 217) (ls2 := [(19, .long r15), (17, .long ((z12.2 12 0) / r7)), (15, .long ((z12.2 11 0) / r7)), (13, .long ((r7 - (r11 * (((z4.2 11 1) + (z4.2 12 1)) / 2))) / r5)), (11, .long r11), (9, .long r9), (7, .long r7), (5, .long r5), (3, .long (((z4.2 11 1) + (z4.2 12 1)) / 2)), (0, .ref 3), (1, .int l1), (2, .int l2)]) (st2 := [.ref 11, .long ((z16.2 12 1) + ((2 * ((z12.2 12 0) / r7)) * r15)), .long (((z12.2 11 0) / r7) * ((z12.2 12 0) / r7)), .ref 4]) (h2 := (q_K0, z16.1, z16.2, q_R0)) [(.lstore 19, 0, 0, 0, 0, 0), (.aload_n 0, 0, 0, 0, 0, 0), (.getfield 12, 0, 0, 0, 0, 0), (.lload 15, 0, 0, 0, 0, 0), (.lload 17, 0, 0, 0, 0, 0), (.lmul, 0, 0, 0, 0, 0), (.aload_n 0, 0, 0, 0, 0, 0), (.getfield 44, 0, 0, 8, 0, 0), (.getfield 112, 0, 1, 1, 0, 0), (.ldc2_w 135, 0, 0, 0, 0, 2), (.lload 17, 0, 0, 0, 0, 0), (.lmul, 0, 0, 0, 0, 0), (.lload 19, 0, 0, 0, 0, 0), (.lmul, 0, 0, 0, 0, 0), (.ladd, 0, 0, 0, 0, 0), (.aload_n 0, 0, 0, 0, 0, 0), (.getfield 41, 0, 0, 7, 0, 0)] (by decide +kernel) rfl rfl ⟨trivial, trivial, rfl, trivial, trivial, trivial, trivial, rfl, rfl, trivial, trivial, trivial, trivial, trivial, trivial, trivial, rfl, trivial⟩ ?_
        obtain ⟨⟨r17, z18⟩, hc28, h⟩ := Option.bind_eq_some_iff.mp h
        dsimp only at h
        refine q_cV1 (idx := 81) (v := .int r17) (h1 := (q_K0, z18.1, z18.2, q_R0)) [.ref 11, .long ((z16.2 12 1) + ((2 * ((z12.2 12 0) / r7)) * r15)), .long (((z12.2 11 0) / r7) * ((z12.2 12 0) / r7)), .ref 4] 19 4 2 [.long (((z12.2 11 0) / r7) * ((z12.2 12 0) / r7)), .long ((z16.2 12 1) + ((2 * ((z12.2 12 0) / r7)) * r15)), .ref 11] [] rfl (by decide +kernel) (by decide +kernel) rfl (Nat.le_of_ble_eq_true rfl) rfl (by decide) (by decide +kernel) (by decide +kernel) (s_X2_complete rfl hc28) ?_
        refine q_if_ne (off := 5) (tgt := 225) (by decide +kernel) (by decide) (fun c220_4 => ?_) (fun c220_4 => ?_)
        · rw [if_neg c220_4] at h
          refine q_blk2 (pc2 := 230) (ls2 := [(19, .long r15), (17, .long ((z12.2 12 0) / r7)), (15, .long ((z12.2 11 0) / r7)), (13, .long ((r7 - (r11 * (((z4.2 11 1) + (z4.2 12 1)) / 2))) / r5)), (11, .long r11), (9, .long r9), (7, .long r7), (5, .long r5), (3, .long (((z4.2 11 1) + (z4.2 12 1)) / 2)), (0, .ref 3), (1, .int l1), (2, .int l2)]) (st2 := [.ref 11, .ref 3]) (h2 := (q_K0, z18.1, z18.2, q_R0)) [(.aload_n 0, 0, 0, 0, 0, 0), (.aload_n 0, 0, 0, 0, 0, 0), (.getfield 41, 0, 0, 7, 0, 0)] (by decide +kernel) rfl rfl ⟨trivial, trivial, rfl, trivial⟩ ?_
          obtain ⟨⟨r19, z20⟩, hc29, h⟩ := Option.bind_eq_some_iff.mp h
          dsimp only at h
          refine q_cV1 (idx := 150) (v := .int r19) (h1 := (q_K0, z20.1, z20.2, q_R0)) [.ref 11, .ref 3] 8 3 0 [.ref 11] [] rfl (by decide +kernel) (by decide +kernel) rfl (Nat.le_of_ble_eq_true rfl) rfl (by decide) (by decide +kernel) (by decide +kernel) (s_X0_find rfl hc29) ?_
          cases h
          exact q_iret .int rfl rfl (by decide +kernel)
        · rw [if_pos c220_4] at h
          refine q_blk2 (pc2 := 224) (ls2 := [(19, .long r15), (17, .long ((z12.2 12 0) / r7)), (15, .long ((z12.2 11 0) / r7)), (13, .long ((r7 - (r11 * (((z4.2 11 1) + (z4.2 12 1)) / 2))) / r5)), (11, .long r11), (9, .long r9), (7, .long r7), (5, .long r5), (3, .long (((z4.2 11 1) + (z4.2 12 1)) / 2)), (0, .ref 3), (1, .int l1), (2, .int l2)]) (st2 := [.int (-1)]) (h2 := (q_K0, z18.1, z18.2, q_R0)) [(.iconst (-1), 0, 0, 0, (-1), 0)] (by decide +kernel) rfl rfl ⟨trivial, trivial⟩ ?_
          cases h
          exact q_iret .int rfl rfl (by decide +kernel)
      · rw [if_pos c147_3] at h
        refine q_blk2 (pc2 := 152) (ls2 := [(17, .long ((z12.2 12 0) / r7)), (15, .long ((z12.2 11 0) / r7)), (13, .long ((r7 - (r11 * (((z4.2 11 1) + (z4.2 12 1)) / 2))) / r5)), (11, .long r11), (9, .long r9), (7, .long r7), (5, .long r5), (3, .long (((z4.2 11 1) + (z4.2 12 1)) / 2)), (0, .ref 3), (1, .int l1), (2, .int l2)]) (st2 := [.int (-1)]) (h2 := (q_K0, z12.1, z12.2, q_R0)) [(.iconst (-1), 0, 0, 0, (-1), 0)] (by decide +kernel) rfl rfl ⟨trivial, trivial⟩ ?_
        cases h
        exact q_iret .int rfl rfl (by decide +kernel)
    · rw [if_pos c75_2] at h
      refine q_pick [] rfl ?_
      exact t_X0_joined_79 h
