/-! pure functions of the methods, and that the methods do what they say (written by wip/whole/dec.py) -/
def B_X3_orderChain_4 : Int32 × Int32 × Int32 × q_Z → Option ((Int32 × Int32 × Int32 × q_Z) × Nat) := fun (l1, l2, l3, z) =>
  if (128 : Int32) ≤ l2 then
    some ((l1, l2, l3, z), 2)
  else
    if 0 ≤ Int32.toInt l2 ∧ Int32.toInt l2 < 128 then
      if l3 = (0 : Int32) then
        some ((l1, l2, l3, (q_u2 z.1 15 (Int32.toNatClampNeg l2) l3, z.2)), 1)
      else
        (F_X0_joined (q_u2 z.1 15 (Int32.toNatClampNeg l2) l3, z.2) l3 l1).bind fun (r2, z3) =>
          some ((l1, l2 + 1, r2, z3), 0)
    else none
set_option maxRecDepth 100000 in
set_option maxHeartbeats 4000000 in
theorem b_X3_orderChain_4 {s s2 : Int32 × Int32 × Int32 × q_Z} {t : Nat} {r : Option Value} {h2 : q_H} (h : B_X3_orderChain_4 s = some (s2, t)) (k0 : t = 0 → q_Ex none 26 4 [(0, .ref 2), (1, .int s2.1), (2, .int s2.2.1), (3, .int s2.2.2.1)] [] (q_K0, s2.2.2.2.1, s2.2.2.2.2, q_R0) r h2) (k1 : t = 1 → q_Ex none 26 22 [(0, .ref 2), (1, .int s2.1), (2, .int s2.2.1), (3, .int s2.2.2.1)] [] (q_K0, s2.2.2.2.1, s2.2.2.2.2, q_R0) r h2) (k2 : t = 2 → q_Ex none 26 41 [(0, .ref 2), (1, .int s2.1), (2, .int s2.2.1), (3, .int s2.2.2.1)] [] (q_K0, s2.2.2.2.1, s2.2.2.2.2, q_R0) r h2) : q_Ex none 26 4 [(0, .ref 2), (1, .int s.1), (2, .int s.2.1), (3, .int s.2.2.1)] [] (q_K0, s.2.2.2.1, s.2.2.2.2, q_R0) r h2 := by
  unfold B_X3_orderChain_4 at h
  obtain ⟨l1, l2, l3, z⟩ := s
  dsimp only at h
  show q_Ex none 26 4 [(0, .ref 2), (1, .int l1), (2, .int l2), (3, .int l3)] [] (q_K0, z.1, z.2, q_R0) r h2
  refine q_blk2 (pc2 := 8) (ls2 := [(0, .ref 2), (1, .int l1), (2, .int l2), (3, .int l3)]) (st2 := [.int 128, .int l2]) (h2 := (q_K0, z.1, z.2, q_R0)) [(.iload_n 2, 0, 0, 0, 0, 0), (.sipush 128, 0, 0, 0, 128, 0)] (by decide +kernel) rfl rfl ⟨trivial, trivial, trivial⟩ ?_
  refine q_ic_ge (off := 33) (tgt := 41) (by decide +kernel) (by decide) (fun c8_1 => ?_) (fun c8_1 => ?_)
  · rw [if_pos c8_1] at h
    cases h
    refine q_pick [0, 1, 2, 3] rfl ?_
    exact k2 rfl
  · rw [if_neg c8_1] at h
    have b1 : 0 ≤ Int32.toInt l2 ∧ Int32.toInt l2 < 128 := by
      by_cases q : 0 ≤ Int32.toInt l2 ∧ Int32.toInt l2 < 128
      · exact q
      · rw [if_neg q] at h; cases h
    rw [if_pos b1] at h
    refine q_blk2 (pc2 := 19) (ls2 := [(0, .ref 2), (1, .int l1), (2, .int l2), (3, .int l3)]) (st2 := [.int l3]) (h2 := (q_K0, q_u2 z.1 15 (Int32.toNatClampNeg l2) l3, z.2, q_R0)) [(.aload_n 0, 0, 0, 0, 0, 0), (.getfield 25, 0, 3, 3, 0, 0), (.iload_n 2, 0, 0, 0, 0, 0), (.iload_n 3, 0, 0, 0, 0, 0), (.iastore, 0, 0, 0, 0, 0), (.iload_n 3, 0, 0, 0, 0, 0)] (by decide +kernel) rfl rfl ⟨trivial, rfl, trivial, trivial, ⟨_, rfl, vp_in_iff.mpr b1⟩, trivial, trivial⟩ ?_
    refine q_if_ne (off := 6) (tgt := 25) (by decide +kernel) (by decide) (fun c19_2 => ?_) (fun c19_2 => ?_)
    · rw [if_neg c19_2] at h
      refine q_blk2 (pc2 := 31) (ls2 := [(0, .ref 2), (1, .int l1), (2, .int l2), (3, .int l3)]) (st2 := [.int l1, .int l3, .ref 3]) (h2 := (q_K0, q_u2 z.1 15 (Int32.toNatClampNeg l2) l3, z.2, q_R0)) [(.aload_n 0, 0, 0, 0, 0, 0), (.getfield 12, 0, 3, 0, 0, 0), (.iload_n 3, 0, 0, 0, 0, 0), (.iload_n 1, 0, 0, 0, 0, 0)] (by decide +kernel) rfl rfl ⟨trivial, rfl, trivial, trivial, trivial⟩ ?_
      obtain ⟨⟨r2, z3⟩, hc4, h⟩ := Option.bind_eq_some_iff.mp h
      dsimp only at h
      refine q_cV1 (idx := 56) (v := .int r2) (h1 := (q_K0, z3.1, z3.2, q_R0)) [.int l1, .int l3, .ref 3] 10 3 0 [.int l3, .int l1] [] rfl (by decide +kernel) (by decide +kernel) rfl (Nat.le_of_ble_eq_true rfl) rfl (by decide) (by decide +kernel) (by decide +kernel) (s_X0_joined hc4) ?_
      refine q_blk2 (pc2 := 38) (ls2 := [(2, .int (l2 + 1)), (3, .int r2), (0, .ref 2), (1, .int l1)]) (st2 := []) (h2 := (q_K0, z3.1, z3.2, q_R0)) [(.istore_n 3, 0, 0, 0, 0, 0), (.iinc 2 1, 0, 0, 0, 1, 0)] (by decide +kernel) rfl rfl ⟨trivial, trivial, trivial⟩ ?_
      refine q_goto (off := -34) (tgt := 4) (by decide +kernel) (by decide) ?_
      cases h
      refine q_pick [2, 3, 0, 1] rfl ?_
      exact k0 rfl
    · rw [if_pos c19_2] at h
      cases h
      refine q_pick [0, 1, 2, 3] rfl ?_
      exact k1 rfl
def T_X3_orderChain_114 (z : q_Z) (l2 : Int32) (l4 : Int32) : Option ((Int32 × Int32 × q_Z) × Nat) :=
  some ((l2, l4 + 1, z), 0)
set_option maxRecDepth 100000 in
set_option maxHeartbeats 4000000 in
theorem t_X3_orderChain_114 {z : q_Z} {l2 : Int32} {l4 : Int32} {s2 : Int32 × Int32 × q_Z} {t : Nat} {r : Option Value} {h2 : q_H} (h : T_X3_orderChain_114 z l2 l4 = some (s2, t)) (k0 : t = 0 → q_Ex none 26 54 [(0, .ref 2), (2, .int s2.1), (4, .int s2.2.1)] [] (q_K0, s2.2.2.1, s2.2.2.2, q_R0) r h2) (k1 : t = 1 → q_Ex none 26 120 [(0, .ref 2), (2, .int s2.1), (4, .int s2.2.1)] [] (q_K0, s2.2.2.1, s2.2.2.2, q_R0) r h2) : q_Ex none 26 114 [(0, .ref 2), (2, .int l2), (4, .int l4)] [] (q_K0, z.1, z.2, q_R0) r h2 := by
  unfold T_X3_orderChain_114 at h
  refine q_blk2 (pc2 := 117) (ls2 := [(4, .int (l4 + 1)), (0, .ref 2), (2, .int l2)]) (st2 := []) (h2 := (q_K0, z.1, z.2, q_R0)) [(.iinc 4 1, 0, 0, 0, 1, 0)] (by decide +kernel) rfl rfl ⟨trivial, trivial⟩ ?_
  refine q_goto (off := -63) (tgt := 54) (by decide +kernel) (by decide) ?_
  cases h
  refine q_pick [1, 2, 0] rfl ?_
  exact k0 rfl
def B_X3_orderChain_54 : Int32 × Int32 × q_Z → Option ((Int32 × Int32 × q_Z) × Nat) := fun (l2, l4, z) =>
  if l2 ≤ l4 then
    some ((l2, l4, z), 1)
  else
    (F_X7_commonDivisor z (Int32.toInt64 l2) (Int32.toInt64 (l4 + 1))).bind fun (r11, z12) =>
      if r11 ≤ (0 : Int64) then
        T_X3_orderChain_114 z12 l2 l4
      else
        if 0 ≤ Int32.toInt l4 ∧ Int32.toInt l4 < 128 then
          (F_X0_hasClass z12 (z12.1 15 (Int32.toNatClampNeg l4))).bind fun (r14, z15) =>
            if r14 = (0 : Int32) then
              T_X3_orderChain_114 z15 l2 l4
            else
              if 0 ≤ Int32.toInt l4 ∧ Int32.toInt l4 < 128 then
                if ¬ r11 = (0 : Int64) then
                  if 0 ≤ Int32.toInt (z15.1 15 (Int32.toNatClampNeg l4)) ∧ Int32.toInt (z15.1 15 (Int32.toNatClampNeg l4)) < 128 then
                    T_X3_orderChain_114 (q_u2 z15.1 13 (Int32.toNatClampNeg (z15.1 15 (Int32.toNatClampNeg l4))) (Int64.toInt32 ((Int32.toInt64 l2) / r11)), z15.2) l2 l4
                  else none
                else none
              else none
        else none
set_option maxRecDepth 100000 in
set_option maxHeartbeats 4000000 in
theorem b_X3_orderChain_54 {s s2 : Int32 × Int32 × q_Z} {t : Nat} {r : Option Value} {h2 : q_H} (h : B_X3_orderChain_54 s = some (s2, t)) (k0 : t = 0 → q_Ex none 26 54 [(0, .ref 2), (2, .int s2.1), (4, .int s2.2.1)] [] (q_K0, s2.2.2.1, s2.2.2.2, q_R0) r h2) (k1 : t = 1 → q_Ex none 26 120 [(0, .ref 2), (2, .int s2.1), (4, .int s2.2.1)] [] (q_K0, s2.2.2.1, s2.2.2.2, q_R0) r h2) : q_Ex none 26 54 [(0, .ref 2), (2, .int s.1), (4, .int s.2.1)] [] (q_K0, s.2.2.1, s.2.2.2, q_R0) r h2 := by
  unfold B_X3_orderChain_54 at h
  obtain ⟨l2, l4, z⟩ := s
  dsimp only at h
  show q_Ex none 26 54 [(0, .ref 2), (2, .int l2), (4, .int l4)] [] (q_K0, z.1, z.2, q_R0) r h2
  refine q_blk2 (pc2 := 57) (ls2 := [(0, .ref 2), (2, .int l2), (4, .int l4)]) (st2 := [.int l2, .int l4]) (h2 := (q_K0, z.1, z.2, q_R0)) [(.iload 4, 0, 0, 0, 0, 0), (.iload_n 2, 0, 0, 0, 0, 0)] (by decide +kernel) rfl rfl ⟨trivial, trivial, trivial⟩ ?_
  refine q_ic_ge (off := 63) (tgt := 120) (by decide +kernel) (by decide) (fun c57_1 => ?_) (fun c57_1 => ?_)
  · rw [if_pos c57_1] at h
    cases h
    refine q_pick [0, 1, 2] rfl ?_
    exact k1 rfl
  · rw [if_neg c57_1] at h
    refine q_blk2 (pc2 := 67) (ls2 := [(0, .ref 2), (2, .int l2), (4, .int l4)]) (st2 := [.long (Int32.toInt64 (l4 + 1)), .long (Int32.toInt64 l2)]) (h2 := (q_K0, z.1, z.2, q_R0)) [(.iload_n 2, 0, 0, 0, 0, 0), (.i2l, 0, 0, 0, 0, 0), (.iload 4, 0, 0, 0, 0, 0), (.iconst 1, 0, 0, 0, 1, 0), (.iadd, 0, 0, 0, 0, 0), (.i2l, 0, 0, 0, 0, 0)] (by decide +kernel) rfl rfl ⟨trivial, trivial, trivial, trivial, trivial, trivial, trivial⟩ ?_
    obtain ⟨⟨r11, z12⟩, hc19, h⟩ := Option.bind_eq_some_iff.mp h
    dsimp only at h
    refine q_cS1 (idx := 65) (v := .long r11) (h1 := (q_K0, z12.1, z12.2, q_R0)) [.long (Int32.toInt64 (l4 + 1)), .long (Int32.toInt64 l2)] 50 [.long (Int32.toInt64 l2), .long (Int32.toInt64 (l4 + 1))] [] rfl (by decide +kernel) (by decide +kernel) rfl (Nat.le_of_ble_eq_true rfl) (by decide +kernel) (s_X7_commonDivisor hc19) ?_
    refine q_blk2 (pc2 := 75) (ls2 := [(5, .long r11), (0, .ref 2), (2, .int l2), (4, .int l4)]) (st2 := [.long 0, .long r11]) (h2 := (q_K0, z12.1, z12.2, q_R0)) [(.lstore 5, 0, 0, 0, 0, 0), (.lload 5, 0, 0, 0, 0, 0), (.lconst 0, 0, 0, 0, 0, 0)] (by decide +kernel) rfl rfl ⟨trivial, trivial, trivial, trivial⟩ ?_
    refine q_lc_le (off := 38) (tgt := 114) (by decide +kernel) (by decide +kernel) (by decide) (fun c75_2 => ?_) (fun c75_2 => ?_)
    · rw [if_pos c75_2] at h
      refine q_pick [1, 2, 3] rfl ?_
      exact t_X3_orderChain_114 h k0 k1
    · rw [if_neg c75_2] at h
      have b13 : 0 ≤ Int32.toInt l4 ∧ Int32.toInt l4 < 128 := by
        by_cases q : 0 ≤ Int32.toInt l4 ∧ Int32.toInt l4 < 128
        · exact q
        · rw [if_neg q] at h; cases h
      rw [if_pos b13] at h
      refine q_blk2 (pc2 := 90) (ls2 := [(5, .long r11), (0, .ref 2), (2, .int l2), (4, .int l4)]) (st2 := [.int (z12.1 15 (Int32.toNatClampNeg l4)), .ref 3]) (h2 := (q_K0, z12.1, z12.2, q_R0)) [(.aload_n 0, 0, 0, 0, 0, 0), (.getfield 12, 0, 3, 0, 0, 0), (.aload_n 0, 0, 0, 0, 0, 0), (.getfield 25, 0, 3, 3, 0, 0), (.iload 4, 0, 0, 0, 0, 0), (.iaload, 0, 0, 0, 0, 0)] (by decide +kernel) rfl rfl ⟨trivial, rfl, trivial, rfl, trivial, ⟨_, rfl, vp_in_iff.mpr b13⟩, trivial⟩ ?_
      obtain ⟨⟨r14, z15⟩, hc20, h⟩ := Option.bind_eq_some_iff.mp h
      dsimp only at h
      refine q_cV1 (idx := 71) (v := .int r14) (h1 := (q_K0, z15.1, z15.2, q_R0)) [.int (z12.1 15 (Int32.toNatClampNeg l4)), .ref 3] 1 3 0 [.int (z12.1 15 (Int32.toNatClampNeg l4))] [] rfl (by decide +kernel) (by decide +kernel) rfl (Nat.le_of_ble_eq_true rfl) rfl (by decide) (by decide +kernel) (by decide +kernel) (s_X0_hasClass hc20) ?_
      refine q_if_eq (off := 21) (tgt := 114) (by decide +kernel) (by decide) (fun c93_3 => ?_) (fun c93_3 => ?_)
      · rw [if_pos c93_3] at h
        refine q_pick [1, 2, 3] rfl ?_
        exact t_X3_orderChain_114 h k0 k1
      · rw [if_neg c93_3] at h
        have b16 : 0 ≤ Int32.toInt l4 ∧ Int32.toInt l4 < 128 := by
          by_cases q : 0 ≤ Int32.toInt l4 ∧ Int32.toInt l4 < 128
          · exact q
          · rw [if_neg q] at h; cases h
        rw [if_pos b16] at h
        have b17 : ¬ r11 = (0 : Int64) := by
          by_cases q : ¬ r11 = (0 : Int64)
          · exact q
          · rw [if_neg q] at h; cases h
        rw [if_pos b17] at h
        have b18 : 0 ≤ Int32.toInt (z15.1 15 (Int32.toNatClampNeg l4)) ∧ Int32.toInt (z15.1 15 (Int32.toNatClampNeg l4)) < 128 := by
          by_cases q : 0 ≤ Int32.toInt (z15.1 15 (Int32.toNatClampNeg l4)) ∧ Int32.toInt (z15.1 15 (Int32.toNatClampNeg l4)) < 128
          · exact q
          · rw [if_neg q] at h; cases h
        rw [if_pos b18] at h
        refine q_blk2 (pc2 := 114) (ls2 := [(5, .long r11), (0, .ref 2), (2, .int l2), (4, .int l4)]) (st2 := []) (h2 := (q_K0, q_u2 z15.1 13 (Int32.toNatClampNeg (z15.1 15 (Int32.toNatClampNeg l4))) (Int64.toInt32 ((Int32.toInt64 l2) / r11)), z15.2, q_R0)) [(.aload_n 0, 0, 0, 0, 0, 0), (.getfield 18, 0, 3, 1, 0, 0), (.aload_n 0, 0, 0, 0, 0, 0), (.getfield 25, 0, 3, 3, 0, 0), (.iload 4, 0, 0, 0, 0, 0), (.iaload, 0, 0, 0, 0, 0), (.iload_n 2, 0, 0, 0, 0, 0), (.i2l, 0, 0, 0, 0, 0), (.lload 5, 0, 0, 0, 0, 0), (.ldiv, 0, 0, 0, 0, 0), (.l2i, 0, 0, 0, 0, 0), (.iastore, 0, 0, 0, 0, 0)] (by decide +kernel) rfl rfl ⟨trivial, rfl, trivial, rfl, trivial, ⟨_, rfl, vp_in_iff.mpr b16⟩, trivial, trivial, trivial, b17, trivial, ⟨_, rfl, vp_in_iff.mpr b18⟩, trivial⟩ ?_
        refine q_pick [1, 2, 3] rfl ?_
        exact t_X3_orderChain_114 h k0 k1
def T_X3_orderChain_41 (z : q_Z) (l2 : Int32) : Option (Unit × q_Z) :=
  (F_J9_min_7cf53 z (l2 + 1) 128).bind fun (r9, z10) =>
    (q_lp (B_X3_orderChain_54) q_fu (r9, 0, z10)).bind fun ((w22, w23, z21), tg) =>
      if tg = 0 then
        some ((), z21)
      else none
set_option maxRecDepth 100000 in
set_option maxHeartbeats 4000000 in
theorem t_X3_orderChain_41 {z zR : q_Z} {l2 : Int32} {rv : Unit} (h : T_X3_orderChain_41 z l2 = some (rv, zR)) : q_Ex none 26 41 [(0, .ref 2), (2, .int l2)] [] (q_K0, z.1, z.2, q_R0) none (q_K0, zR.1, zR.2, q_R0) := by
  unfold T_X3_orderChain_41 at h
  refine q_blk2 (pc2 := 47) (ls2 := [(0, .ref 2), (2, .int l2)]) (st2 := [.int 128, .int (l2 + 1)]) (h2 := (q_K0, z.1, z.2, q_R0)) [(.iload_n 2, 0, 0, 0, 0, 0), (.iconst 1, 0, 0, 0, 1, 0), (.iadd, 0, 0, 0, 0, 0), (.sipush 128, 0, 0, 0, 128, 0)] (by decide +kernel) rfl rfl ⟨trivial, trivial, trivial, trivial, trivial⟩ ?_
  obtain ⟨⟨r9, z10⟩, hc24, h⟩ := Option.bind_eq_some_iff.mp h
  dsimp only at h
  refine q_cS1 (idx := 60) (v := .int r9) (h1 := (q_K0, z10.1, z10.2, q_R0)) [.int 128, .int (l2 + 1)] 162 [.int (l2 + 1), .int 128] [] rfl (by decide +kernel) (by decide +kernel) rfl (Nat.le_of_ble_eq_true rfl) (by decide +kernel) (s_J9_min_7cf53 hc24) ?_
  refine q_blk2 (pc2 := 54) (ls2 := [(4, .int 0), (2, .int r9), (0, .ref 2)]) (st2 := []) (h2 := (q_K0, z10.1, z10.2, q_R0)) [(.istore_n 2, 0, 0, 0, 0, 0), (.iconst 0, 0, 0, 0, 0, 0), (.istore 4, 0, 0, 0, 0, 0)] (by decide +kernel) rfl rfl ⟨trivial, trivial, trivial, trivial⟩ ?_
  obtain ⟨⟨⟨w22, w23, z21⟩, tg26⟩, hl25, h⟩ := Option.bind_eq_some_iff.mp h
  dsimp only at h
  refine q_pick [2, 1, 0] rfl ?_
  refine q_lp_ok (P := fun s => q_Ex _ 26 54 [(0, .ref 2), (2, .int s.1), (4, .int s.2.1)] [] (q_K0, s.2.2.1, s.2.2.2, q_R0) _ _) (X := fun u s => (u = 0 → q_Ex _ 26 120 [(0, .ref 2), (2, .int s.1), (4, .int s.2.1)] [] (q_K0, s.2.2.1, s.2.2.2, q_R0) _ _)) (fun s s2 t hh k0 kx => b_X3_orderChain_54 hh k0 (fun e => (kx 0 e) rfl)) hl25 ?_
  · intro e_tg26
    subst e_tg26
    rw [if_pos rfl] at h
    show q_Ex _ 26 120 [(0, .ref 2), (2, .int w22), (4, .int w23)] [] (q_K0, z21.1, z21.2, q_R0) _ _
    cases h
    exact q_vret rfl (by decide +kernel)
/-- RootForms$GroupTable.orderChain(I)V -/
def F_X3_orderChain (z : q_Z) (l1 : Int32) : Option (Unit × q_Z) :=
  (q_lp (B_X3_orderChain_4) q_fu (l1, 0, l1, z)).bind fun ((w6, w7, w8, z5), tg) =>
    if tg = 0 then
      T_X3_orderChain_41 z5 w7
    else if tg = 1 then
      T_X3_orderChain_41 z5 w7
    else none
set_option maxRecDepth 100000 in
set_option maxHeartbeats 4000000 in
theorem s_X3_orderChain {z zR : q_Z} {l1 : Int32} {rv : Unit} (h : F_X3_orderChain z l1 = some (rv, zR)) : q_Ca 26 [.ref 2, .int l1] (q_K0, z.1, z.2, q_R0) none (q_K0, zR.1, zR.2, q_R0) := by
  refine q_Ca_of (by decide) (Nat.le_of_ble_eq_true rfl) ?_
  show q_Ex none 26 0 [(0, .ref 2), (1, .int l1)] [] (q_K0, z.1, z.2, q_R0) _ _
  unfold F_X3_orderChain at h
  refine q_blk2 (pc2 := 4) (ls2 := [(3, .int l1), (2, .int 0), (0, .ref 2), (1, .int l1)]) (st2 := []) (h2 := (q_K0, z.1, z.2, q_R0)) [(.iconst 0, 0, 0, 0, 0, 0), (.istore_n 2, 0, 0, 0, 0, 0), (.iload_n 1, 0, 0, 0, 0, 0), (.istore_n 3, 0, 0, 0, 0, 0)] (by decide +kernel) rfl rfl ⟨trivial, trivial, trivial, trivial, trivial⟩ ?_
  obtain ⟨⟨⟨w6, w7, w8, z5⟩, tg28⟩, hl27, h⟩ := Option.bind_eq_some_iff.mp h
  dsimp only at h
  refine q_pick [2, 3, 1, 0] rfl ?_
  refine q_lp_ok (P := fun s => q_Ex _ 26 4 [(0, .ref 2), (1, .int s.1), (2, .int s.2.1), (3, .int s.2.2.1)] [] (q_K0, s.2.2.2.1, s.2.2.2.2, q_R0) _ _) (X := fun u s => (u = 0 → q_Ex _ 26 22 [(0, .ref 2), (1, .int s.1), (2, .int s.2.1), (3, .int s.2.2.1)] [] (q_K0, s.2.2.2.1, s.2.2.2.2, q_R0) _ _) ∧ (u = 1 → q_Ex _ 26 41 [(0, .ref 2), (1, .int s.1), (2, .int s.2.1), (3, .int s.2.2.1)] [] (q_K0, s.2.2.2.1, s.2.2.2.2, q_R0) _ _)) (fun s s2 t hh k0 kx => b_X3_orderChain_4 hh k0 (fun e => (kx 0 e).1 rfl) (fun e => (kx 1 e).2 rfl)) hl27 ?_
  refine ⟨?_, ?_⟩
  · intro e_tg28
    subst e_tg28
    rw [if_pos rfl] at h
    show q_Ex _ 26 22 [(0, .ref 2), (1, .int w6), (2, .int w7), (3, .int w8)] [] (q_K0, z5.1, z5.2, q_R0) _ _
    refine q_goto (off := 19) (tgt := 41) (by decide +kernel) (by decide) ?_
    refine q_pick [0, 2] rfl ?_
    exact t_X3_orderChain_41 h
  · intro e_tg28
    subst e_tg28
    rw [if_neg (by decide)] at h
    rw [if_pos rfl] at h
    show q_Ex _ 26 41 [(0, .ref 2), (1, .int w6), (2, .int w7), (3, .int w8)] [] (q_K0, z5.1, z5.2, q_R0) _ _
    refine q_pick [0, 2] rfl ?_
    exact t_X3_orderChain_41 h
def T_X3_countOrders_45 (z : q_Z) (l1 : Int32) (l2 : Int32) (l3 : Int32) : Option ((Int32 × Int32 × Int32 × q_Z) × Nat) :=
  some ((l1, l2, l3 + 1, z), 0)
set_option maxRecDepth 100000 in
set_option maxHeartbeats 4000000 in
theorem t_X3_countOrders_45 {z : q_Z} {l1 : Int32} {l2 : Int32} {l3 : Int32} {s2 : Int32 × Int32 × Int32 × q_Z} {t : Nat} {r : Option Value} {h2 : q_H} (h : T_X3_countOrders_45 z l1 l2 l3 = some (s2, t)) (k0 : t = 0 → q_Ex none 28 4 [(0, .ref 2), (1, .int s2.1), (2, .int s2.2.1), (3, .int s2.2.2.1)] [] (q_K0, s2.2.2.2.1, s2.2.2.2.2, q_R0) r h2) (k1 : t = 1 → q_Ex none 28 51 [(0, .ref 2), (1, .int s2.1), (2, .int s2.2.1), (3, .int s2.2.2.1)] [] (q_K0, s2.2.2.2.1, s2.2.2.2.2, q_R0) r h2) : q_Ex none 28 45 [(0, .ref 2), (1, .int l1), (2, .int l2), (3, .int l3)] [] (q_K0, z.1, z.2, q_R0) r h2 := by
  unfold T_X3_countOrders_45 at h
  refine q_blk2 (pc2 := 48) (ls2 := [(3, .int (l3 + 1)), (0, .ref 2), (1, .int l1), (2, .int l2)]) (st2 := []) (h2 := (q_K0, z.1, z.2, q_R0)) [(.iinc 3 1, 0, 0, 0, 1, 0)] (by decide +kernel) rfl rfl ⟨trivial, trivial⟩ ?_
  refine q_goto (off := -44) (tgt := 4) (by decide +kernel) (by decide) ?_
  cases h
  refine q_pick [1, 2, 3, 0] rfl ?_
  exact k0 rfl
def B_X3_countOrders_4 : Int32 × Int32 × Int32 × q_Z → Option ((Int32 × Int32 × Int32 × q_Z) × Nat) := fun (l1, l2, l3, z) =>
  if (128 : Int32) ≤ l3 then
    some ((l1, l2, l3, z), 1)
  else
    if (z.1 3 10) ≤ l3 then
      some ((l1, l2, l3, z), 1)
    else
      if 0 ≤ Int32.toInt l3 ∧ Int32.toInt l3 < 128 then
        if (z.1 13 (Int32.toNatClampNeg l3)) ≤ (0 : Int32) then
          T_X3_countOrders_45 z l1 l2 l3
        else
          if 0 ≤ Int32.toInt l3 ∧ Int32.toInt l3 < 128 then
            if ¬ (z.1 13 (Int32.toNatClampNeg l3)) = (0 : Int32) then
              if (l1 - l1 / (z.1 13 (Int32.toNatClampNeg l3)) * (z.1 13 (Int32.toNatClampNeg l3))) = (0 : Int32) then
                T_X3_countOrders_45 z l1 (l2 + 1) l3
              else
                T_X3_countOrders_45 z l1 l2 l3
            else none
          else none
      else none
set_option maxRecDepth 100000 in
set_option maxHeartbeats 4000000 in
theorem b_X3_countOrders_4 {s s2 : Int32 × Int32 × Int32 × q_Z} {t : Nat} {r : Option Value} {h2 : q_H} (h : B_X3_countOrders_4 s = some (s2, t)) (k0 : t = 0 → q_Ex none 28 4 [(0, .ref 2), (1, .int s2.1), (2, .int s2.2.1), (3, .int s2.2.2.1)] [] (q_K0, s2.2.2.2.1, s2.2.2.2.2, q_R0) r h2) (k1 : t = 1 → q_Ex none 28 51 [(0, .ref 2), (1, .int s2.1), (2, .int s2.2.1), (3, .int s2.2.2.1)] [] (q_K0, s2.2.2.2.1, s2.2.2.2.2, q_R0) r h2) : q_Ex none 28 4 [(0, .ref 2), (1, .int s.1), (2, .int s.2.1), (3, .int s.2.2.1)] [] (q_K0, s.2.2.2.1, s.2.2.2.2, q_R0) r h2 := by
  unfold B_X3_countOrders_4 at h
  obtain ⟨l1, l2, l3, z⟩ := s
  dsimp only at h
  show q_Ex none 28 4 [(0, .ref 2), (1, .int l1), (2, .int l2), (3, .int l3)] [] (q_K0, z.1, z.2, q_R0) r h2
  refine q_blk2 (pc2 := 8) (ls2 := [(0, .ref 2), (1, .int l1), (2, .int l2), (3, .int l3)]) (st2 := [.int 128, .int l3]) (h2 := (q_K0, z.1, z.2, q_R0)) [(.iload_n 3, 0, 0, 0, 0, 0), (.sipush 128, 0, 0, 0, 128, 0)] (by decide +kernel) rfl rfl ⟨trivial, trivial, trivial⟩ ?_
  refine q_ic_ge (off := 43) (tgt := 51) (by decide +kernel) (by decide) (fun c8_1 => ?_) (fun c8_1 => ?_)
  · rw [if_pos c8_1] at h
    cases h
    refine q_pick [0, 1, 2, 3] rfl ?_
    exact k1 rfl
  · rw [if_neg c8_1] at h
    refine q_blk2 (pc2 := 19) (ls2 := [(0, .ref 2), (1, .int l1), (2, .int l2), (3, .int l3)]) (st2 := [.int (z.1 3 10), .int l3]) (h2 := (q_K0, z.1, z.2, q_R0)) [(.iload_n 3, 0, 0, 0, 0, 0), (.aload_n 0, 0, 0, 0, 0, 0), (.getfield 12, 0, 3, 0, 0, 0), (.getfield 39, 0, 0, 10, 0, 0)] (by decide +kernel) rfl rfl ⟨trivial, trivial, rfl, rfl, trivial⟩ ?_
    refine q_ic_ge (off := 32) (tgt := 51) (by decide +kernel) (by decide) (fun c19_2 => ?_) (fun c19_2 => ?_)
    · rw [if_pos c19_2] at h
      cases h
      refine q_pick [0, 1, 2, 3] rfl ?_
      exact k1 rfl
    · rw [if_neg c19_2] at h
      have b1 : 0 ≤ Int32.toInt l3 ∧ Int32.toInt l3 < 128 := by
        by_cases q : 0 ≤ Int32.toInt l3 ∧ Int32.toInt l3 < 128
        · exact q
        · rw [if_neg q] at h; cases h
      rw [if_pos b1] at h
      refine q_blk2 (pc2 := 28) (ls2 := [(0, .ref 2), (1, .int l1), (2, .int l2), (3, .int l3)]) (st2 := [.int (z.1 13 (Int32.toNatClampNeg l3))]) (h2 := (q_K0, z.1, z.2, q_R0)) [(.aload_n 0, 0, 0, 0, 0, 0), (.getfield 18, 0, 3, 1, 0, 0), (.iload_n 3, 0, 0, 0, 0, 0), (.iaload, 0, 0, 0, 0, 0)] (by decide +kernel) rfl rfl ⟨trivial, rfl, trivial, ⟨_, rfl, vp_in_iff.mpr b1⟩, trivial⟩ ?_
      refine q_if_le (off := 17) (tgt := 45) (by decide +kernel) (by decide) (fun c28_3 => ?_) (fun c28_3 => ?_)
      · rw [if_pos c28_3] at h
        refine q_pick [0, 1, 2, 3] rfl ?_
        exact t_X3_countOrders_45 h k0 k1
      · rw [if_neg c28_3] at h
        have b2 : 0 ≤ Int32.toInt l3 ∧ Int32.toInt l3 < 128 := by
          by_cases q : 0 ≤ Int32.toInt l3 ∧ Int32.toInt l3 < 128
          · exact q
          · rw [if_neg q] at h; cases h
        rw [if_pos b2] at h
        have b3 : ¬ (z.1 13 (Int32.toNatClampNeg l3)) = (0 : Int32) := by
          by_cases q : ¬ (z.1 13 (Int32.toNatClampNeg l3)) = (0 : Int32)
          · exact q
          · rw [if_neg q] at h; cases h
        rw [if_pos b3] at h
        refine q_blk2 (pc2 := 39) (ls2 := [(0, .ref 2), (1, .int l1), (2, .int l2), (3, .int l3)]) (st2 := [.int (l1 - l1 / (z.1 13 (Int32.toNatClampNeg l3)) * (z.1 13 (Int32.toNatClampNeg l3)))]) (h2 := (q_K0, z.1, z.2, q_R0)) [(.iload_n 1, 0, 0, 0, 0, 0), (.aload_n 0, 0, 0, 0, 0, 0), (.getfield 18, 0, 3, 1, 0, 0), (.iload_n 3, 0, 0, 0, 0, 0), (.iaload, 0, 0, 0, 0, 0), (.irem, 0, 0, 0, 0, 0)] (by decide +kernel) rfl rfl ⟨trivial, trivial, rfl, trivial, ⟨_, rfl, vp_in_iff.mpr b2⟩, b3, trivial⟩ ?_
        refine q_if_ne (off := 6) (tgt := 45) (by decide +kernel) (by decide) (fun c39_4 => ?_) (fun c39_4 => ?_)
        · rw [if_neg c39_4] at h
          refine q_pick [0, 1, 2, 3] rfl ?_
          exact t_X3_countOrders_45 h k0 k1
        · rw [if_pos c39_4] at h
          refine q_blk2 (pc2 := 45) (ls2 := [(2, .int (l2 + 1)), (0, .ref 2), (1, .int l1), (3, .int l3)]) (st2 := []) (h2 := (q_K0, z.1, z.2, q_R0)) [(.iinc 2 1, 0, 0, 0, 1, 0)] (by decide +kernel) rfl rfl ⟨trivial, trivial⟩ ?_
          refine q_pick [1, 2, 0, 3] rfl ?_
          exact t_X3_countOrders_45 h k0 k1
def T_X3_countOrders_51 (z : q_Z) (l2 : Int32) : Option (Int32 × q_Z) :=
  some (l2, z)
set_option maxRecDepth 100000 in
set_option maxHeartbeats 4000000 in
theorem t_X3_countOrders_51 {z zR : q_Z} {l2 : Int32} {rv : Int32} (h : T_X3_countOrders_51 z l2 = some (rv, zR)) : q_Ex none 28 51 [(2, .int l2)] [] (q_K0, z.1, z.2, q_R0) (some (.int rv)) (q_K0, zR.1, zR.2, q_R0) := by
  unfold T_X3_countOrders_51 at h
  refine q_blk2 (pc2 := 52) (ls2 := [(2, .int l2)]) (st2 := [.int l2]) (h2 := (q_K0, z.1, z.2, q_R0)) [(.iload_n 2, 0, 0, 0, 0, 0)] (by decide +kernel) rfl rfl ⟨trivial, trivial⟩ ?_
  cases h
  exact q_iret .int rfl rfl (by decide +kernel)
/-- RootForms$GroupTable.countOrders(I)I -/
def F_X3_countOrders (z : q_Z) (l1 : Int32) : Option (Int32 × q_Z) :=
  (q_lp (B_X3_countOrders_4) q_fu (l1, 0, 0, z)).bind fun ((w5, w6, w7, z4), tg) =>
    if tg = 0 then
      T_X3_countOrders_51 z4 w6
    else none
set_option maxRecDepth 100000 in
set_option maxHeartbeats 4000000 in
theorem s_X3_countOrders {z zR : q_Z} {l1 : Int32} {rv : Int32} (h : F_X3_countOrders z l1 = some (rv, zR)) : q_Ca 28 [.ref 2, .int l1] (q_K0, z.1, z.2, q_R0) (some (.int rv)) (q_K0, zR.1, zR.2, q_R0) := by
  refine q_Ca_of (by decide) (Nat.le_of_ble_eq_true rfl) ?_
  show q_Ex none 28 0 [(0, .ref 2), (1, .int l1)] [] (q_K0, z.1, z.2, q_R0) _ _
  unfold F_X3_countOrders at h
  refine q_blk2 (pc2 := 4) (ls2 := [(3, .int 0), (2, .int 0), (0, .ref 2), (1, .int l1)]) (st2 := []) (h2 := (q_K0, z.1, z.2, q_R0)) [(.iconst 0, 0, 0, 0, 0, 0), (.istore_n 2, 0, 0, 0, 0, 0), (.iconst 0, 0, 0, 0, 0, 0), (.istore_n 3, 0, 0, 0, 0, 0)] (by decide +kernel) rfl rfl ⟨trivial, trivial, trivial, trivial, trivial⟩ ?_
  obtain ⟨⟨⟨w5, w6, w7, z4⟩, tg9⟩, hl8, h⟩ := Option.bind_eq_some_iff.mp h
  dsimp only at h
  refine q_pick [2, 3, 1, 0] rfl ?_
  refine q_lp_ok (P := fun s => q_Ex _ 28 4 [(0, .ref 2), (1, .int s.1), (2, .int s.2.1), (3, .int s.2.2.1)] [] (q_K0, s.2.2.2.1, s.2.2.2.2, q_R0) _ _) (X := fun u s => (u = 0 → q_Ex _ 28 51 [(0, .ref 2), (1, .int s.1), (2, .int s.2.1), (3, .int s.2.2.1)] [] (q_K0, s.2.2.2.1, s.2.2.2.2, q_R0) _ _)) (fun s s2 t hh k0 kx => b_X3_countOrders_4 hh k0 (fun e => (kx 0 e) rfl)) hl8 ?_
  · intro e_tg9
    subst e_tg9
    rw [if_pos rfl] at h
    show q_Ex _ 28 51 [(0, .ref 2), (1, .int w5), (2, .int w6), (3, .int w7)] [] (q_K0, z4.1, z4.2, q_R0) _ _
    refine q_pick [2] rfl ?_
    exact t_X3_countOrders_51 h
def T_X3_widenRing_33 (z : q_Z) (l1 : Int32) (l2 : Int32) : Option (Unit × q_Z) :=
  if 0 ≤ Int32.toInt l1 ∧ Int32.toInt l1 < 16 then
    some ((), (q_u2 z.1 16 (Int32.toNatClampNeg l1) ((z.1 16 (Int32.toNatClampNeg l1)) * l2), z.2))
  else none
set_option maxRecDepth 100000 in
set_option maxHeartbeats 4000000 in
theorem t_X3_widenRing_33 {z zR : q_Z} {l1 : Int32} {l2 : Int32} {rv : Unit} (h : T_X3_widenRing_33 z l1 l2 = some (rv, zR)) : q_Ex none 29 33 [(0, .ref 2), (1, .int l1), (2, .int l2)] [] (q_K0, z.1, z.2, q_R0) none (q_K0, zR.1, zR.2, q_R0) := by
  unfold T_X3_widenRing_33 at h
  have b1 : 0 ≤ Int32.toInt l1 ∧ Int32.toInt l1 < 16 := by
    by_cases q : 0 ≤ Int32.toInt l1 ∧ Int32.toInt l1 < 16
    · exact q
    · rw [if_neg q] at h; cases h
  rw [if_pos b1] at h
  refine q_blk2 (pc2 := 43) (ls2 := [(0, .ref 2), (1, .int l1), (2, .int l2)]) (st2 := []) (h2 := (q_K0, q_u2 z.1 16 (Int32.toNatClampNeg l1) ((z.1 16 (Int32.toNatClampNeg l1)) * l2), z.2, q_R0)) [(.aload_n 0, 0, 0, 0, 0, 0), (.getfield 28, 0, 3, 4, 0, 0), (.iload_n 1, 0, 0, 0, 0, 0), (.dup2, 0, 0, 0, 0, 0), (.iaload, 0, 0, 0, 0, 0), (.iload_n 2, 0, 0, 0, 0, 0), (.imul, 0, 0, 0, 0, 0), (.iastore, 0, 0, 0, 0, 0)] (by decide +kernel) rfl rfl ⟨trivial, rfl, trivial, trivial, ⟨_, rfl, vp_in_iff.mpr b1⟩, trivial, trivial, ⟨_, rfl, vp_in_iff.mpr b1⟩, trivial⟩ ?_
  cases h
  exact q_vret rfl (by decide +kernel)
/-- RootForms$GroupTable.widenRing(II)V -/
def F_X3_widenRing (z : q_Z) (l1 : Int32) (l2 : Int32) : Option (Unit × q_Z) :=
  if l1 < (0 : Int32) then
    some ((), z)
  else
    if l1 < (16 : Int32) then
      if l1 < (z.1 2 5) then
        T_X3_widenRing_33 z l1 l2
      else
        if 0 ≤ Int32.toInt l1 ∧ Int32.toInt l1 < 16 then
          T_X3_widenRing_33 (q_u2 (q_u2 z.1 16 (Int32.toNatClampNeg l1) 1) 2 5 (l1 + 1), z.2) l1 l2
        else none
    else
      some ((), z)
set_option maxRecDepth 100000 in
set_option maxHeartbeats 4000000 in
theorem s_X3_widenRing {z zR : q_Z} {l1 : Int32} {l2 : Int32} {rv : Unit} (h : F_X3_widenRing z l1 l2 = some (rv, zR)) : q_Ca 29 [.ref 2, .int l1, .int l2] (q_K0, z.1, z.2, q_R0) none (q_K0, zR.1, zR.2, q_R0) := by
  refine q_Ca_of (by decide) (Nat.le_of_ble_eq_true rfl) ?_
  show q_Ex none 29 0 [(0, .ref 2), (1, .int l1), (2, .int l2)] [] (q_K0, z.1, z.2, q_R0) _ _
  unfold F_X3_widenRing at h
  refine q_blk2 (pc2 := 1) (ls2 := [(0, .ref 2), (1, .int l1), (2, .int l2)]) (st2 := [.int l1]) (h2 := (q_K0, z.1, z.2, q_R0)) [(.iload_n 1, 0, 0, 0, 0, 0)] (by decide +kernel) rfl rfl ⟨trivial, trivial⟩ ?_
  refine q_if_lt (off := 9) (tgt := 10) (by decide +kernel) (by decide) (fun c1_1 => ?_) (fun c1_1 => ?_)
  · rw [if_pos c1_1] at h
    cases h
    exact q_vret rfl (by decide +kernel)
  · rw [if_neg c1_1] at h
    refine q_blk2 (pc2 := 7) (ls2 := [(0, .ref 2), (1, .int l1), (2, .int l2)]) (st2 := [.int 16, .int l1]) (h2 := (q_K0, z.1, z.2, q_R0)) [(.iload_n 1, 0, 0, 0, 0, 0), (.bipush 16, 0, 0, 0, 16, 0)] (by decide +kernel) rfl rfl ⟨trivial, trivial, trivial⟩ ?_
    refine q_ic_lt (off := 4) (tgt := 11) (by decide +kernel) (by decide) (fun c7_2 => ?_) (fun c7_2 => ?_)
    · rw [if_pos c7_2] at h
      refine q_blk2 (pc2 := 16) (ls2 := [(0, .ref 2), (1, .int l1), (2, .int l2)]) (st2 := [.int (z.1 2 5), .int l1]) (h2 := (q_K0, z.1, z.2, q_R0)) [(.iload_n 1, 0, 0, 0, 0, 0), (.aload_n 0, 0, 0, 0, 0, 0), (.getfield 75, 0, 3, 5, 0, 0)] (by decide +kernel) rfl rfl ⟨trivial, trivial, rfl, trivial⟩ ?_
      refine q_ic_lt (off := 17) (tgt := 33) (by decide +kernel) (by decide) (fun c16_3 => ?_) (fun c16_3 => ?_)
      · rw [if_pos c16_3] at h
        refine q_pick [0, 1, 2] rfl ?_
        exact t_X3_widenRing_33 h
      · rw [if_neg c16_3] at h
        have b2 : 0 ≤ Int32.toInt l1 ∧ Int32.toInt l1 < 16 := by
          by_cases q : 0 ≤ Int32.toInt l1 ∧ Int32.toInt l1 < 16
          · exact q
          · rw [if_neg q] at h; cases h
        rw [if_pos b2] at h
        refine q_blk2 (pc2 := 33) (ls2 := [(0, .ref 2), (1, .int l1), (2, .int l2)]) (st2 := []) (h2 := (q_K0, q_u2 (q_u2 z.1 16 (Int32.toNatClampNeg l1) 1) 2 5 (l1 + 1), z.2, q_R0)) [(.aload_n 0, 0, 0, 0, 0, 0), (.getfield 28, 0, 3, 4, 0, 0), (.iload_n 1, 0, 0, 0, 0, 0), (.iconst 1, 0, 0, 0, 1, 0), (.iastore, 0, 0, 0, 0, 0), (.aload_n 0, 0, 0, 0, 0, 0), (.iload_n 1, 0, 0, 0, 0, 0), (.iconst 1, 0, 0, 0, 1, 0), (.iadd, 0, 0, 0, 0, 0), (.putfield 75, 0, 3, 5, 0, 0)] (by decide +kernel) rfl rfl ⟨trivial, rfl, trivial, trivial, ⟨_, rfl, vp_in_iff.mpr b2⟩, trivial, trivial, trivial, trivial, ⟨rfl, rfl, rfl⟩, trivial⟩ ?_
        refine q_pick [0, 1, 2] rfl ?_
        exact t_X3_widenRing_33 h
    · rw [if_neg c7_2] at h
      cases h
      exact q_vret rfl (by decide +kernel)
def B_X3_findRings_59 : Int32 × Int32 × Int32 × Int32 × Int32 × Int32 × q_Z → Option ((Int32 × Int32 × Int32 × Int32 × Int32 × Int32 × q_Z) × Nat) := fun (l1, l2, l3, l5, l6, l7, z) =>
  if l5 ≤ l6 then
    some ((l1, l2, l3, l5, l6, l7, z), 1)
  else
    if (16 : Int32) ≤ l7 then
      some ((l1, l2, l3, l5, l6, l7, z), 1)
    else
      (F_X3_widenRing z l7 l2).bind fun (_, z5) =>
        if ¬ l2 = (0 : Int32) then
          some ((l1 / l2, l2, l3, l5, l6 * l2, l7 + 1, z5), 0)
        else none
set_option maxRecDepth 100000 in
set_option maxHeartbeats 4000000 in
theorem b_X3_findRings_59 {s s2 : Int32 × Int32 × Int32 × Int32 × Int32 × Int32 × q_Z} {t : Nat} {r : Option Value} {h2 : q_H} (h : B_X3_findRings_59 s = some (s2, t)) (k0 : t = 0 → q_Ex none 27 59 [(0, .ref 2), (1, .int s2.1), (2, .int s2.2.1), (3, .int s2.2.2.1), (5, .int s2.2.2.2.1), (6, .int s2.2.2.2.2.1), (7, .int s2.2.2.2.2.2.1)] [] (q_K0, s2.2.2.2.2.2.2.1, s2.2.2.2.2.2.2.2, q_R0) r h2) (k1 : t = 1 → q_Ex none 27 96 [(0, .ref 2), (1, .int s2.1), (2, .int s2.2.1), (3, .int s2.2.2.1), (5, .int s2.2.2.2.1), (6, .int s2.2.2.2.2.1), (7, .int s2.2.2.2.2.2.1)] [] (q_K0, s2.2.2.2.2.2.2.1, s2.2.2.2.2.2.2.2, q_R0) r h2) : q_Ex none 27 59 [(0, .ref 2), (1, .int s.1), (2, .int s.2.1), (3, .int s.2.2.1), (5, .int s.2.2.2.1), (6, .int s.2.2.2.2.1), (7, .int s.2.2.2.2.2.1)] [] (q_K0, s.2.2.2.2.2.2.1, s.2.2.2.2.2.2.2, q_R0) r h2 := by
  unfold B_X3_findRings_59 at h
  obtain ⟨l1, l2, l3, l5, l6, l7, z⟩ := s
  dsimp only at h
  show q_Ex none 27 59 [(0, .ref 2), (1, .int l1), (2, .int l2), (3, .int l3), (5, .int l5), (6, .int l6), (7, .int l7)] [] (q_K0, z.1, z.2, q_R0) r h2
  refine q_blk2 (pc2 := 63) (ls2 := [(0, .ref 2), (1, .int l1), (2, .int l2), (3, .int l3), (5, .int l5), (6, .int l6), (7, .int l7)]) (st2 := [.int l5, .int l6]) (h2 := (q_K0, z.1, z.2, q_R0)) [(.iload 6, 0, 0, 0, 0, 0), (.iload 5, 0, 0, 0, 0, 0)] (by decide +kernel) rfl rfl ⟨trivial, trivial, trivial⟩ ?_
  refine q_ic_ge (off := 33) (tgt := 96) (by decide +kernel) (by decide) (fun c63_1 => ?_) (fun c63_1 => ?_)
  · rw [if_pos c63_1] at h
    cases h
    refine q_pick [0, 1, 2, 3, 4, 5, 6] rfl ?_
    exact k1 rfl
  · rw [if_neg c63_1] at h
    refine q_blk2 (pc2 := 70) (ls2 := [(0, .ref 2), (1, .int l1), (2, .int l2), (3, .int l3), (5, .int l5), (6, .int l6), (7, .int l7)]) (st2 := [.int 16, .int l7]) (h2 := (q_K0, z.1, z.2, q_R0)) [(.iload 7, 0, 0, 0, 0, 0), (.bipush 16, 0, 0, 0, 16, 0)] (by decide +kernel) rfl rfl ⟨trivial, trivial, trivial⟩ ?_
    refine q_ic_ge (off := 26) (tgt := 96) (by decide +kernel) (by decide) (fun c70_2 => ?_) (fun c70_2 => ?_)
    · rw [if_pos c70_2] at h
      cases h
      refine q_pick [0, 1, 2, 3, 4, 5, 6] rfl ?_
      exact k1 rfl
    · rw [if_neg c70_2] at h
      refine q_blk2 (pc2 := 77) (ls2 := [(0, .ref 2), (1, .int l1), (2, .int l2), (3, .int l3), (5, .int l5), (6, .int l6), (7, .int l7)]) (st2 := [.int l2, .int l7, .ref 2]) (h2 := (q_K0, z.1, z.2, q_R0)) [(.aload_n 0, 0, 0, 0, 0, 0), (.iload 7, 0, 0, 0, 0, 0), (.iload_n 2, 0, 0, 0, 0, 0)] (by decide +kernel) rfl rfl ⟨trivial, trivial, trivial, trivial⟩ ?_
      obtain ⟨⟨_, z5⟩, hc7, h⟩ := Option.bind_eq_some_iff.mp h
      dsimp only at h
      refine q_cV0 (idx := 82) (h1 := (q_K0, z5.1, z5.2, q_R0)) [.int l2, .int l7, .ref 2] 29 2 3 [.int l7, .int l2] [] rfl (by decide +kernel) (by decide +kernel) rfl (Nat.le_of_ble_eq_true rfl) rfl (by decide) (by decide +kernel) (by decide +kernel) (s_X3_widenRing hc7) ?_
      have b6 : ¬ l2 = (0 : Int32) := by
        by_cases q : ¬ l2 = (0 : Int32)
        · exact q
        · rw [if_neg q] at h; cases h
      rw [if_pos b6] at h
      refine q_blk2 (pc2 := 93) (ls2 := [(6, .int (l6 * l2)), (7, .int (l7 + 1)), (1, .int (l1 / l2)), (0, .ref 2), (2, .int l2), (3, .int l3), (5, .int l5)]) (st2 := []) (h2 := (q_K0, z5.1, z5.2, q_R0)) [(.iload_n 1, 0, 0, 0, 0, 0), (.iload_n 2, 0, 0, 0, 0, 0), (.idiv, 0, 0, 0, 0, 0), (.istore_n 1, 0, 0, 0, 0, 0), (.iinc 7 1, 0, 0, 0, 1, 0), (.iload 6, 0, 0, 0, 0, 0), (.iload_n 2, 0, 0, 0, 0, 0), (.imul, 0, 0, 0, 0, 0), (.istore 6, 0, 0, 0, 0, 0)] (by decide +kernel) rfl rfl ⟨trivial, trivial, b6, trivial, trivial, trivial, trivial, trivial, trivial, trivial⟩ ?_
      refine q_goto (off := -34) (tgt := 59) (by decide +kernel) (by decide) ?_
      cases h
      refine q_pick [3, 2, 4, 5, 6, 0, 1] rfl ?_
      exact k0 rfl
def T_X3_findRings_96 (z : q_Z) (l1 : Int32) (l2 : Int32) (l3 : Int32) (l5 : Int32) : Option ((Int32 × Int32 × Int32 × Int32 × q_Z) × Nat) :=
  some ((l1, l2, l3 * l2, l5, z), 0)
set_option maxRecDepth 100000 in
set_option maxHeartbeats 4000000 in
theorem t_X3_findRings_96 {z : q_Z} {l1 : Int32} {l2 : Int32} {l3 : Int32} {l5 : Int32} {s2 : Int32 × Int32 × Int32 × Int32 × q_Z} {t : Nat} {r : Option Value} {h2 : q_H} (h : T_X3_findRings_96 z l1 l2 l3 l5 = some (s2, t)) (k0 : t = 0 → q_Ex none 27 32 [(0, .ref 2), (1, .int s2.1), (2, .int s2.2.1), (3, .int s2.2.2.1), (4, .int s2.2.2.2.1)] [] (q_K0, s2.2.2.2.2.1, s2.2.2.2.2.2, q_R0) r h2) (k1 : t = 1 → q_Ex none 27 107 [(0, .ref 2), (1, .int s2.1), (2, .int s2.2.1), (3, .int s2.2.2.1), (4, .int s2.2.2.2.1)] [] (q_K0, s2.2.2.2.2.1, s2.2.2.2.2.2, q_R0) r h2) : q_Ex none 27 96 [(0, .ref 2), (1, .int l1), (2, .int l2), (3, .int l3), (5, .int l5)] [] (q_K0, z.1, z.2, q_R0) r h2 := by
  unfold T_X3_findRings_96 at h
  refine q_blk2 (pc2 := 104) (ls2 := [(3, .int (l3 * l2)), (4, .int l5), (0, .ref 2), (1, .int l1), (2, .int l2), (5, .int l5)]) (st2 := []) (h2 := (q_K0, z.1, z.2, q_R0)) [(.iload 5, 0, 0, 0, 0, 0), (.istore 4, 0, 0, 0, 0, 0), (.iload_n 3, 0, 0, 0, 0, 0), (.iload_n 2, 0, 0, 0, 0, 0), (.imul, 0, 0, 0, 0, 0), (.istore_n 3, 0, 0, 0, 0, 0)] (by decide +kernel) rfl rfl ⟨trivial, trivial, trivial, trivial, trivial, trivial, trivial⟩ ?_
  refine q_goto (off := -72) (tgt := 32) (by decide +kernel) (by decide) ?_
  cases h
  refine q_pick [2, 3, 4, 0, 1] rfl ?_
  exact k0 rfl
def B_X3_findRings_32 : Int32 × Int32 × Int32 × Int32 × q_Z → Option ((Int32 × Int32 × Int32 × Int32 × q_Z) × Nat) := fun (l1, l2, l3, l4, z) =>
  if ¬ l2 = (0 : Int32) then
    if (l1 - l1 / l2 * l2) = (0 : Int32) then
      if (128 : Int32) < l3 then
        some ((l1, l2, l3, l4, z), 1)
      else
        (F_X3_countOrders z l3).bind fun (r2, z3) =>
          (q_lp (B_X3_findRings_59) q_fu (l1, l2, l3, r2, l4, 0, z3)).bind fun ((w9, w10, w11, w12, w13, w14, z8), tg) =>
            if tg = 0 then
              T_X3_findRings_96 z8 w9 w10 w11 w12
            else none
    else
      some ((l1, l2, l3, l4, z), 1)
  else none
set_option maxRecDepth 100000 in
set_option maxHeartbeats 4000000 in
theorem b_X3_findRings_32 {s s2 : Int32 × Int32 × Int32 × Int32 × q_Z} {t : Nat} {r : Option Value} {h2 : q_H} (h : B_X3_findRings_32 s = some (s2, t)) (k0 : t = 0 → q_Ex none 27 32 [(0, .ref 2), (1, .int s2.1), (2, .int s2.2.1), (3, .int s2.2.2.1), (4, .int s2.2.2.2.1)] [] (q_K0, s2.2.2.2.2.1, s2.2.2.2.2.2, q_R0) r h2) (k1 : t = 1 → q_Ex none 27 107 [(0, .ref 2), (1, .int s2.1), (2, .int s2.2.1), (3, .int s2.2.2.1), (4, .int s2.2.2.2.1)] [] (q_K0, s2.2.2.2.2.1, s2.2.2.2.2.2, q_R0) r h2) : q_Ex none 27 32 [(0, .ref 2), (1, .int s.1), (2, .int s.2.1), (3, .int s.2.2.1), (4, .int s.2.2.2.1)] [] (q_K0, s.2.2.2.2.1, s.2.2.2.2.2, q_R0) r h2 := by
  unfold B_X3_findRings_32 at h
  obtain ⟨l1, l2, l3, l4, z⟩ := s
  dsimp only at h
  show q_Ex none 27 32 [(0, .ref 2), (1, .int l1), (2, .int l2), (3, .int l3), (4, .int l4)] [] (q_K0, z.1, z.2, q_R0) r h2
  have b1 : ¬ l2 = (0 : Int32) := by
    by_cases q : ¬ l2 = (0 : Int32)
    · exact q
    · rw [if_neg q] at h; cases h
  rw [if_pos b1] at h
  refine q_blk2 (pc2 := 35) (ls2 := [(0, .ref 2), (1, .int l1), (2, .int l2), (3, .int l3), (4, .int l4)]) (st2 := [.int (l1 - l1 / l2 * l2)]) (h2 := (q_K0, z.1, z.2, q_R0)) [(.iload_n 1, 0, 0, 0, 0, 0), (.iload_n 2, 0, 0, 0, 0, 0), (.irem, 0, 0, 0, 0, 0)] (by decide +kernel) rfl rfl ⟨trivial, trivial, b1, trivial⟩ ?_
  refine q_if_ne (off := 72) (tgt := 107) (by decide +kernel) (by decide) (fun c35_1 => ?_) (fun c35_1 => ?_)
  · rw [if_neg c35_1] at h
    cases h
    refine q_pick [0, 1, 2, 3, 4] rfl ?_
    exact k1 rfl
  · rw [if_pos c35_1] at h
    refine q_blk2 (pc2 := 42) (ls2 := [(0, .ref 2), (1, .int l1), (2, .int l2), (3, .int l3), (4, .int l4)]) (st2 := [.int 128, .int l3]) (h2 := (q_K0, z.1, z.2, q_R0)) [(.iload_n 3, 0, 0, 0, 0, 0), (.sipush 128, 0, 0, 0, 128, 0)] (by decide +kernel) rfl rfl ⟨trivial, trivial, trivial⟩ ?_
    refine q_ic_gt (off := 65) (tgt := 107) (by decide +kernel) (by decide) (fun c42_2 => ?_) (fun c42_2 => ?_)
    · rw [if_pos c42_2] at h
      cases h
      refine q_pick [0, 1, 2, 3, 4] rfl ?_
      exact k1 rfl
    · rw [if_neg c42_2] at h
      refine q_blk2 (pc2 := 47) (ls2 := [(0, .ref 2), (1, .int l1), (2, .int l2), (3, .int l3), (4, .int l4)]) (st2 := [.int l3, .ref 2]) (h2 := (q_K0, z.1, z.2, q_R0)) [(.aload_n 0, 0, 0, 0, 0, 0), (.iload_n 3, 0, 0, 0, 0, 0)] (by decide +kernel) rfl rfl ⟨trivial, trivial, trivial⟩ ?_
      obtain ⟨⟨r2, z3⟩, hc15, h⟩ := Option.bind_eq_some_iff.mp h
      dsimp only at h
      refine q_cV1 (idx := 78) (v := .int r2) (h1 := (q_K0, z3.1, z3.2, q_R0)) [.int l3, .ref 2] 28 2 3 [.int l3] [] rfl (by decide +kernel) (by decide +kernel) rfl (Nat.le_of_ble_eq_true rfl) rfl (by decide) (by decide +kernel) (by decide +kernel) (s_X3_countOrders hc15) ?_
      refine q_blk2 (pc2 := 59) (ls2 := [(7, .int 0), (6, .int l4), (5, .int r2), (0, .ref 2), (1, .int l1), (2, .int l2), (3, .int l3), (4, .int l4)]) (st2 := []) (h2 := (q_K0, z3.1, z3.2, q_R0)) [(.istore 5, 0, 0, 0, 0, 0), (.iload 4, 0, 0, 0, 0, 0), (.istore 6, 0, 0, 0, 0, 0), (.iconst 0, 0, 0, 0, 0, 0), (.istore 7, 0, 0, 0, 0, 0)] (by decide +kernel) rfl rfl ⟨trivial, trivial, trivial, trivial, trivial, trivial⟩ ?_
      obtain ⟨⟨⟨w9, w10, w11, w12, w13, w14, z8⟩, tg17⟩, hl16, h⟩ := Option.bind_eq_some_iff.mp h
      dsimp only at h
      refine q_pick [3, 4, 5, 6, 2, 1, 0] rfl ?_
      refine q_lp_ok (P := fun s => q_Ex _ 27 59 [(0, .ref 2), (1, .int s.1), (2, .int s.2.1), (3, .int s.2.2.1), (5, .int s.2.2.2.1), (6, .int s.2.2.2.2.1), (7, .int s.2.2.2.2.2.1)] [] (q_K0, s.2.2.2.2.2.2.1, s.2.2.2.2.2.2.2, q_R0) _ _) (X := fun u s => (u = 0 → q_Ex _ 27 96 [(0, .ref 2), (1, .int s.1), (2, .int s.2.1), (3, .int s.2.2.1), (5, .int s.2.2.2.1), (6, .int s.2.2.2.2.1), (7, .int s.2.2.2.2.2.1)] [] (q_K0, s.2.2.2.2.2.2.1, s.2.2.2.2.2.2.2, q_R0) _ _)) (fun s s2 t hh k0 kx => b_X3_findRings_59 hh k0 (fun e => (kx 0 e) rfl)) hl16 ?_
      · intro e_tg17
        subst e_tg17
        rw [if_pos rfl] at h
        show q_Ex _ 27 96 [(0, .ref 2), (1, .int w9), (2, .int w10), (3, .int w11), (5, .int w12), (6, .int w13), (7, .int w14)] [] (q_K0, z8.1, z8.2, q_R0) _ _
        refine q_pick [0, 1, 2, 3, 4] rfl ?_
        exact t_X3_findRings_96 h k0 k1
def T_X3_findRings_107 (z : q_Z) (l1 : Int32) (l2 : Int32) : Option ((Int32 × Int32 × q_Z) × Nat) :=
  some ((l1, l2 + 1, z), 0)
set_option maxRecDepth 100000 in
set_option maxHeartbeats 4000000 in
theorem t_X3_findRings_107 {z : q_Z} {l1 : Int32} {l2 : Int32} {s2 : Int32 × Int32 × q_Z} {t : Nat} {r : Option Value} {h2 : q_H} (h : T_X3_findRings_107 z l1 l2 = some (s2, t)) (k0 : t = 0 → q_Ex none 27 15 [(0, .ref 2), (1, .int s2.1), (2, .int s2.2.1)] [] (q_K0, s2.2.2.1, s2.2.2.2, q_R0) r h2) (k1 : t = 1 → q_Ex none 27 113 [(0, .ref 2), (1, .int s2.1), (2, .int s2.2.1)] [] (q_K0, s2.2.2.1, s2.2.2.2, q_R0) r h2) : q_Ex none 27 107 [(0, .ref 2), (1, .int l1), (2, .int l2)] [] (q_K0, z.1, z.2, q_R0) r h2 := by
  unfold T_X3_findRings_107 at h
  refine q_blk2 (pc2 := 110) (ls2 := [(2, .int (l2 + 1)), (0, .ref 2), (1, .int l1)]) (st2 := []) (h2 := (q_K0, z.1, z.2, q_R0)) [(.iinc 2 1, 0, 0, 0, 1, 0)] (by decide +kernel) rfl rfl ⟨trivial, trivial⟩ ?_
  refine q_goto (off := -95) (tgt := 15) (by decide +kernel) (by decide) ?_
  cases h
  refine q_pick [1, 2, 0] rfl ?_
  exact k0 rfl
def B_X3_findRings_15 : Int32 × Int32 × q_Z → Option ((Int32 × Int32 × q_Z) × Nat) := fun (l1, l2, z) =>
  if (128 : Int32) < l2 then
    some ((l1, l2, z), 1)
  else
    if l1 ≤ (1 : Int32) then
      some ((l1, l2, z), 1)
    else
      (q_lp (B_X3_findRings_32) q_fu (l1, l2, l2, 1, z)).bind fun ((w19, w20, w21, w22, z18), tg) =>
        if tg = 0 then
          T_X3_findRings_107 z18 w19 w20
        else none
set_option maxRecDepth 100000 in
set_option maxHeartbeats 4000000 in
theorem b_X3_findRings_15 {s s2 : Int32 × Int32 × q_Z} {t : Nat} {r : Option Value} {h2 : q_H} (h : B_X3_findRings_15 s = some (s2, t)) (k0 : t = 0 → q_Ex none 27 15 [(0, .ref 2), (1, .int s2.1), (2, .int s2.2.1)] [] (q_K0, s2.2.2.1, s2.2.2.2, q_R0) r h2) (k1 : t = 1 → q_Ex none 27 113 [(0, .ref 2), (1, .int s2.1), (2, .int s2.2.1)] [] (q_K0, s2.2.2.1, s2.2.2.2, q_R0) r h2) : q_Ex none 27 15 [(0, .ref 2), (1, .int s.1), (2, .int s.2.1)] [] (q_K0, s.2.2.1, s.2.2.2, q_R0) r h2 := by
  unfold B_X3_findRings_15 at h
  obtain ⟨l1, l2, z⟩ := s
  dsimp only at h
  show q_Ex none 27 15 [(0, .ref 2), (1, .int l1), (2, .int l2)] [] (q_K0, z.1, z.2, q_R0) r h2
  refine q_blk2 (pc2 := 19) (ls2 := [(0, .ref 2), (1, .int l1), (2, .int l2)]) (st2 := [.int 128, .int l2]) (h2 := (q_K0, z.1, z.2, q_R0)) [(.iload_n 2, 0, 0, 0, 0, 0), (.sipush 128, 0, 0, 0, 128, 0)] (by decide +kernel) rfl rfl ⟨trivial, trivial, trivial⟩ ?_
  refine q_ic_gt (off := 94) (tgt := 113) (by decide +kernel) (by decide) (fun c19_1 => ?_) (fun c19_1 => ?_)
  · rw [if_pos c19_1] at h
    cases h
    refine q_pick [0, 1, 2] rfl ?_
    exact k1 rfl
  · rw [if_neg c19_1] at h
    refine q_blk2 (pc2 := 24) (ls2 := [(0, .ref 2), (1, .int l1), (2, .int l2)]) (st2 := [.int 1, .int l1]) (h2 := (q_K0, z.1, z.2, q_R0)) [(.iload_n 1, 0, 0, 0, 0, 0), (.iconst 1, 0, 0, 0, 1, 0)] (by decide +kernel) rfl rfl ⟨trivial, trivial, trivial⟩ ?_
    refine q_ic_le (off := 89) (tgt := 113) (by decide +kernel) (by decide) (fun c24_2 => ?_) (fun c24_2 => ?_)
    · rw [if_pos c24_2] at h
      cases h
      refine q_pick [0, 1, 2] rfl ?_
      exact k1 rfl
    · rw [if_neg c24_2] at h
      refine q_blk2 (pc2 := 32) (ls2 := [(4, .int 1), (3, .int l2), (0, .ref 2), (1, .int l1), (2, .int l2)]) (st2 := []) (h2 := (q_K0, z.1, z.2, q_R0)) [(.iload_n 2, 0, 0, 0, 0, 0), (.istore_n 3, 0, 0, 0, 0, 0), (.iconst 1, 0, 0, 0, 1, 0), (.istore 4, 0, 0, 0, 0, 0)] (by decide +kernel) rfl rfl ⟨trivial, trivial, trivial, trivial, trivial⟩ ?_
      obtain ⟨⟨⟨w19, w20, w21, w22, z18⟩, tg24⟩, hl23, h⟩ := Option.bind_eq_some_iff.mp h
      dsimp only at h
      refine q_pick [2, 3, 4, 1, 0] rfl ?_
      refine q_lp_ok (P := fun s => q_Ex _ 27 32 [(0, .ref 2), (1, .int s.1), (2, .int s.2.1), (3, .int s.2.2.1), (4, .int s.2.2.2.1)] [] (q_K0, s.2.2.2.2.1, s.2.2.2.2.2, q_R0) _ _) (X := fun u s => (u = 0 → q_Ex _ 27 107 [(0, .ref 2), (1, .int s.1), (2, .int s.2.1), (3, .int s.2.2.1), (4, .int s.2.2.2.1)] [] (q_K0, s.2.2.2.2.1, s.2.2.2.2.2, q_R0) _ _)) (fun s s2 t hh k0 kx => b_X3_findRings_32 hh k0 (fun e => (kx 0 e) rfl)) hl23 ?_
      · intro e_tg24
        subst e_tg24
        rw [if_pos rfl] at h
        show q_Ex _ 27 107 [(0, .ref 2), (1, .int w19), (2, .int w20), (3, .int w21), (4, .int w22)] [] (q_K0, z18.1, z18.2, q_R0) _ _
        refine q_pick [0, 1, 2] rfl ?_
        exact t_X3_findRings_107 h k0 k1
/-- RootForms$GroupTable.findRings()V -/
def F_X3_findRings (z : q_Z) : Option (Unit × q_Z) :=
  (q_lp (B_X3_findRings_15) q_fu (z.1 3 10, 2, (q_u2 z.1 2 5 0, z.2))).bind fun ((w26, w27, z25), tg) =>
    if tg = 0 then
      some ((), z25)
    else none
set_option maxRecDepth 100000 in
set_option maxHeartbeats 4000000 in
theorem s_X3_findRings {z zR : q_Z} {rv : Unit} (h : F_X3_findRings z = some (rv, zR)) : q_Ca 27 [.ref 2] (q_K0, z.1, z.2, q_R0) none (q_K0, zR.1, zR.2, q_R0) := by
  refine q_Ca_of (by decide) (Nat.le_of_ble_eq_true rfl) ?_
  show q_Ex none 27 0 [(0, .ref 2)] [] (q_K0, z.1, z.2, q_R0) _ _
  unfold F_X3_findRings at h
  refine q_blk2 (pc2 := 15) (ls2 := [(2, .int 2), (1, .int (z.1 3 10)), (0, .ref 2)]) (st2 := []) (h2 := (q_K0, q_u2 z.1 2 5 0, z.2, q_R0)) [(.aload_n 0, 0, 0, 0, 0, 0), (.iconst 0, 0, 0, 0, 0, 0), (.putfield 75, 0, 3, 5, 0, 0), (.aload_n 0, 0, 0, 0, 0, 0), (.getfield 12, 0, 3, 0, 0, 0), (.getfield 39, 0, 0, 10, 0, 0), (.istore_n 1, 0, 0, 0, 0, 0), (.iconst 2, 0, 0, 0, 2, 0), (.istore_n 2, 0, 0, 0, 0, 0)] (by decide +kernel) rfl rfl ⟨trivial, trivial, ⟨rfl, rfl, rfl⟩, trivial, rfl, rfl, trivial, trivial, trivial, trivial⟩ ?_
  obtain ⟨⟨⟨w26, w27, z25⟩, tg29⟩, hl28, h⟩ := Option.bind_eq_some_iff.mp h
  dsimp only at h
  refine q_pick [2, 1, 0] rfl ?_
  refine q_lp_ok (P := fun s => q_Ex _ 27 15 [(0, .ref 2), (1, .int s.1), (2, .int s.2.1)] [] (q_K0, s.2.2.1, s.2.2.2, q_R0) _ _) (X := fun u s => (u = 0 → q_Ex _ 27 113 [(0, .ref 2), (1, .int s.1), (2, .int s.2.1)] [] (q_K0, s.2.2.1, s.2.2.2, q_R0) _ _)) (fun s s2 t hh k0 kx => b_X3_findRings_15 hh k0 (fun e => (kx 0 e) rfl)) hl28 ?_
  · intro e_tg29
    subst e_tg29
    rw [if_pos rfl] at h
    show q_Ex _ 27 113 [(0, .ref 2), (1, .int w26), (2, .int w27)] [] (q_K0, z25.1, z25.2, q_R0) _ _
    cases h
    exact q_vret rfl (by decide +kernel)
def T_X3_listSquares_77 (z : q_Z) (l1 : Int32) (l2 : Int32) : Option ((Int32 × Int32 × q_Z) × Nat) :=
  some ((l1, l2 + 1, z), 0)
set_option maxRecDepth 100000 in
set_option maxHeartbeats 4000000 in
theorem t_X3_listSquares_77 {z : q_Z} {l1 : Int32} {l2 : Int32} {s2 : Int32 × Int32 × q_Z} {t : Nat} {r : Option Value} {h2 : q_H} (h : T_X3_listSquares_77 z l1 l2 = some (s2, t)) (k0 : t = 0 → q_Ex none 31 4 [(0, .ref 2), (1, .int s2.1), (2, .int s2.2.1)] [] (q_K0, s2.2.2.1, s2.2.2.2, q_R0) r h2) (k1 : t = 1 → q_Ex none 31 83 [(0, .ref 2), (1, .int s2.1), (2, .int s2.2.1)] [] (q_K0, s2.2.2.1, s2.2.2.2, q_R0) r h2) : q_Ex none 31 77 [(0, .ref 2), (1, .int l1), (2, .int l2)] [] (q_K0, z.1, z.2, q_R0) r h2 := by
  unfold T_X3_listSquares_77 at h
  refine q_blk2 (pc2 := 80) (ls2 := [(2, .int (l2 + 1)), (0, .ref 2), (1, .int l1)]) (st2 := []) (h2 := (q_K0, z.1, z.2, q_R0)) [(.iinc 2 1, 0, 0, 0, 1, 0)] (by decide +kernel) rfl rfl ⟨trivial, trivial⟩ ?_
  refine q_goto (off := -76) (tgt := 4) (by decide +kernel) (by decide) ?_
  cases h
  refine q_pick [1, 2, 0] rfl ?_
  exact k0 rfl
def B_X3_listSquares_4 : Int32 × Int32 × q_Z → Option ((Int32 × Int32 × q_Z) × Nat) := fun (l1, l2, z) =>
  if (128 : Int32) ≤ l2 then
    some ((l1, l2, z), 1)
  else
    if (z.1 3 10) ≤ l2 then
      some ((l1, l2, z), 1)
    else
      (F_X0_joined z l2 l2).bind fun (r1, z2) =>
        (F_X0_hasClass z2 r1).bind fun (r3, z4) =>
          if r3 = (0 : Int32) then
            T_X3_listSquares_77 z4 l1 l2
          else
            if 0 ≤ Int32.toInt r1 ∧ Int32.toInt r1 < 128 then
              if (z4.1 14 (Int32.toNatClampNeg r1)) = (-1 : Int32) then
                if (128 : Int32) ≤ l1 then
                  T_X3_listSquares_77 z4 l1 l2
                else
                  if 0 ≤ Int32.toInt r1 ∧ Int32.toInt r1 < 128 then
                    if 0 ≤ Int32.toInt l1 ∧ Int32.toInt l1 < 128 then
                      T_X3_listSquares_77 (q_u2 (q_u2 z4.1 14 (Int32.toNatClampNeg r1) 0) 15 (Int32.toNatClampNeg l1) r1, z4.2) (l1 + 1) l2
                    else none
                  else none
              else
                T_X3_listSquares_77 z4 l1 l2
            else none
set_option maxRecDepth 100000 in
set_option maxHeartbeats 4000000 in
theorem b_X3_listSquares_4 {s s2 : Int32 × Int32 × q_Z} {t : Nat} {r : Option Value} {h2 : q_H} (h : B_X3_listSquares_4 s = some (s2, t)) (k0 : t = 0 → q_Ex none 31 4 [(0, .ref 2), (1, .int s2.1), (2, .int s2.2.1)] [] (q_K0, s2.2.2.1, s2.2.2.2, q_R0) r h2) (k1 : t = 1 → q_Ex none 31 83 [(0, .ref 2), (1, .int s2.1), (2, .int s2.2.1)] [] (q_K0, s2.2.2.1, s2.2.2.2, q_R0) r h2) : q_Ex none 31 4 [(0, .ref 2), (1, .int s.1), (2, .int s.2.1)] [] (q_K0, s.2.2.1, s.2.2.2, q_R0) r h2 := by
  unfold B_X3_listSquares_4 at h
  obtain ⟨l1, l2, z⟩ := s
  dsimp only at h
  show q_Ex none 31 4 [(0, .ref 2), (1, .int l1), (2, .int l2)] [] (q_K0, z.1, z.2, q_R0) r h2
  refine q_blk2 (pc2 := 8) (ls2 := [(0, .ref 2), (1, .int l1), (2, .int l2)]) (st2 := [.int 128, .int l2]) (h2 := (q_K0, z.1, z.2, q_R0)) [(.iload_n 2, 0, 0, 0, 0, 0), (.sipush 128, 0, 0, 0, 128, 0)] (by decide +kernel) rfl rfl ⟨trivial, trivial, trivial⟩ ?_
  refine q_ic_ge (off := 75) (tgt := 83) (by decide +kernel) (by decide) (fun c8_1 => ?_) (fun c8_1 => ?_)
  · rw [if_pos c8_1] at h
    cases h
    refine q_pick [0, 1, 2] rfl ?_
    exact k1 rfl
  · rw [if_neg c8_1] at h
    refine q_blk2 (pc2 := 19) (ls2 := [(0, .ref 2), (1, .int l1), (2, .int l2)]) (st2 := [.int (z.1 3 10), .int l2]) (h2 := (q_K0, z.1, z.2, q_R0)) [(.iload_n 2, 0, 0, 0, 0, 0), (.aload_n 0, 0, 0, 0, 0, 0), (.getfield 12, 0, 3, 0, 0, 0), (.getfield 39, 0, 0, 10, 0, 0)] (by decide +kernel) rfl rfl ⟨trivial, trivial, rfl, rfl, trivial⟩ ?_
    refine q_ic_ge (off := 64) (tgt := 83) (by decide +kernel) (by decide) (fun c19_2 => ?_) (fun c19_2 => ?_)
    · rw [if_pos c19_2] at h
      cases h
      refine q_pick [0, 1, 2] rfl ?_
      exact k1 rfl
    · rw [if_neg c19_2] at h
      refine q_blk2 (pc2 := 28) (ls2 := [(0, .ref 2), (1, .int l1), (2, .int l2)]) (st2 := [.int l2, .int l2, .ref 3]) (h2 := (q_K0, z.1, z.2, q_R0)) [(.aload_n 0, 0, 0, 0, 0, 0), (.getfield 12, 0, 3, 0, 0, 0), (.iload_n 2, 0, 0, 0, 0, 0), (.iload_n 2, 0, 0, 0, 0, 0)] (by decide +kernel) rfl rfl ⟨trivial, rfl, trivial, trivial, trivial⟩ ?_
      obtain ⟨⟨r1, z2⟩, hc8, h⟩ := Option.bind_eq_some_iff.mp h
      dsimp only at h
      refine q_cV1 (idx := 56) (v := .int r1) (h1 := (q_K0, z2.1, z2.2, q_R0)) [.int l2, .int l2, .ref 3] 10 3 0 [.int l2, .int l2] [] rfl (by decide +kernel) (by decide +kernel) rfl (Nat.le_of_ble_eq_true rfl) rfl (by decide) (by decide +kernel) (by decide +kernel) (s_X0_joined hc8) ?_
      refine q_blk2 (pc2 := 37) (ls2 := [(3, .int r1), (0, .ref 2), (1, .int l1), (2, .int l2)]) (st2 := [.int r1, .ref 3]) (h2 := (q_K0, z2.1, z2.2, q_R0)) [(.istore_n 3, 0, 0, 0, 0, 0), (.aload_n 0, 0, 0, 0, 0, 0), (.getfield 12, 0, 3, 0, 0, 0), (.iload_n 3, 0, 0, 0, 0, 0)] (by decide +kernel) rfl rfl ⟨trivial, trivial, rfl, trivial, trivial⟩ ?_
      obtain ⟨⟨r3, z4⟩, hc9, h⟩ := Option.bind_eq_some_iff.mp h
      dsimp only at h
      refine q_cV1 (idx := 71) (v := .int r3) (h1 := (q_K0, z4.1, z4.2, q_R0)) [.int r1, .ref 3] 1 3 0 [.int r1] [] rfl (by decide +kernel) (by decide +kernel) rfl (Nat.le_of_ble_eq_true rfl) rfl (by decide) (by decide +kernel) (by decide +kernel) (s_X0_hasClass hc9) ?_
      refine q_if_eq (off := 37) (tgt := 77) (by decide +kernel) (by decide) (fun c40_3 => ?_) (fun c40_3 => ?_)
      · rw [if_pos c40_3] at h
        refine q_pick [1, 2, 3] rfl ?_
        exact t_X3_listSquares_77 h k0 k1
      · rw [if_neg c40_3] at h
        have b5 : 0 ≤ Int32.toInt r1 ∧ Int32.toInt r1 < 128 := by
          by_cases q : 0 ≤ Int32.toInt r1 ∧ Int32.toInt r1 < 128
          · exact q
          · rw [if_neg q] at h; cases h
        rw [if_pos b5] at h
        refine q_blk2 (pc2 := 50) (ls2 := [(3, .int r1), (0, .ref 2), (1, .int l1), (2, .int l2)]) (st2 := [.int (-1), .int (z4.1 14 (Int32.toNatClampNeg r1))]) (h2 := (q_K0, z4.1, z4.2, q_R0)) [(.aload_n 0, 0, 0, 0, 0, 0), (.getfield 22, 0, 3, 2, 0, 0), (.iload_n 3, 0, 0, 0, 0, 0), (.iaload, 0, 0, 0, 0, 0), (.iconst (-1), 0, 0, 0, (-1), 0)] (by decide +kernel) rfl rfl ⟨trivial, rfl, trivial, ⟨_, rfl, vp_in_iff.mpr b5⟩, trivial, trivial⟩ ?_
        refine q_ic_ne (off := 27) (tgt := 77) (by decide +kernel) (by decide) (fun c50_4 => ?_) (fun c50_4 => ?_)
        · rw [if_neg c50_4] at h
          refine q_pick [1, 2, 3] rfl ?_
          exact t_X3_listSquares_77 h k0 k1
        · rw [if_pos c50_4] at h
          refine q_blk2 (pc2 := 57) (ls2 := [(3, .int r1), (0, .ref 2), (1, .int l1), (2, .int l2)]) (st2 := [.int 128, .int l1]) (h2 := (q_K0, z4.1, z4.2, q_R0)) [(.iload_n 1, 0, 0, 0, 0, 0), (.sipush 128, 0, 0, 0, 128, 0)] (by decide +kernel) rfl rfl ⟨trivial, trivial, trivial⟩ ?_
          refine q_ic_ge (off := 20) (tgt := 77) (by decide +kernel) (by decide) (fun c57_5 => ?_) (fun c57_5 => ?_)
          · rw [if_pos c57_5] at h
            refine q_pick [1, 2, 3] rfl ?_
            exact t_X3_listSquares_77 h k0 k1
          · rw [if_neg c57_5] at h
            have b6 : 0 ≤ Int32.toInt r1 ∧ Int32.toInt r1 < 128 := by
              by_cases q : 0 ≤ Int32.toInt r1 ∧ Int32.toInt r1 < 128
              · exact q
              · rw [if_neg q] at h; cases h
            rw [if_pos b6] at h
            have b7 : 0 ≤ Int32.toInt l1 ∧ Int32.toInt l1 < 128 := by
              by_cases q : 0 ≤ Int32.toInt l1 ∧ Int32.toInt l1 < 128
              · exact q
              · rw [if_neg q] at h; cases h
            rw [if_pos b7] at h
            refine q_blk2 (pc2 := 77) (ls2 := [(1, .int (l1 + 1)), (3, .int r1), (0, .ref 2), (2, .int l2)]) (st2 := []) (h2 := (q_K0, q_u2 (q_u2 z4.1 14 (Int32.toNatClampNeg r1) 0) 15 (Int32.toNatClampNeg l1) r1, z4.2, q_R0)) [(.aload_n 0, 0, 0, 0, 0, 0), (.getfield 22, 0, 3, 2, 0, 0), (.iload_n 3, 0, 0, 0, 0, 0), (.iconst 0, 0, 0, 0, 0, 0), (.iastore, 0, 0, 0, 0, 0), (.aload_n 0, 0, 0, 0, 0, 0), (.getfield 25, 0, 3, 3, 0, 0), (.iload_n 1, 0, 0, 0, 0, 0), (.iload_n 3, 0, 0, 0, 0, 0), (.iastore, 0, 0, 0, 0, 0), (.iinc 1 1, 0, 0, 0, 1, 0)] (by decide +kernel) rfl rfl ⟨trivial, rfl, trivial, trivial, ⟨_, rfl, vp_in_iff.mpr b6⟩, trivial, rfl, trivial, trivial, ⟨_, rfl, vp_in_iff.mpr b7⟩, trivial, trivial⟩ ?_
            refine q_pick [2, 0, 3] rfl ?_
            exact t_X3_listSquares_77 h k0 k1
def T_X3_listSquares_118 (z : q_Z) (l1 : Int32) (l2 : Int32) : Option ((Int32 × Int32 × q_Z) × Nat) :=
  some ((l1, l2 + 1, z), 0)
set_option maxRecDepth 100000 in
set_option maxHeartbeats 4000000 in
theorem t_X3_listSquares_118 {z : q_Z} {l1 : Int32} {l2 : Int32} {s2 : Int32 × Int32 × q_Z} {t : Nat} {r : Option Value} {h2 : q_H} (h : T_X3_listSquares_118 z l1 l2 = some (s2, t)) (k0 : t = 0 → q_Ex none 31 85 [(0, .ref 2), (1, .int s2.1), (2, .int s2.2.1)] [] (q_K0, s2.2.2.1, s2.2.2.2, q_R0) r h2) (k1 : t = 1 → q_Ex none 31 124 [(0, .ref 2), (1, .int s2.1), (2, .int s2.2.1)] [] (q_K0, s2.2.2.1, s2.2.2.2, q_R0) r h2) : q_Ex none 31 118 [(0, .ref 2), (1, .int l1), (2, .int l2)] [] (q_K0, z.1, z.2, q_R0) r h2 := by
  unfold T_X3_listSquares_118 at h
  refine q_blk2 (pc2 := 121) (ls2 := [(2, .int (l2 + 1)), (0, .ref 2), (1, .int l1)]) (st2 := []) (h2 := (q_K0, z.1, z.2, q_R0)) [(.iinc 2 1, 0, 0, 0, 1, 0)] (by decide +kernel) rfl rfl ⟨trivial, trivial⟩ ?_
  refine q_goto (off := -36) (tgt := 85) (by decide +kernel) (by decide) ?_
  cases h
  refine q_pick [1, 2, 0] rfl ?_
  exact k0 rfl
def B_X3_listSquares_85 : Int32 × Int32 × q_Z → Option ((Int32 × Int32 × q_Z) × Nat) := fun (l1, l2, z) =>
  if l1 ≤ l2 then
    some ((l1, l2, z), 1)
  else
    if 0 ≤ Int32.toInt l2 ∧ Int32.toInt l2 < 128 then
      (F_X0_hasClass z (z.1 15 (Int32.toNatClampNeg l2))).bind fun (r14, z15) =>
        if r14 = (0 : Int32) then
          T_X3_listSquares_118 z15 l1 l2
        else
          if 0 ≤ Int32.toInt l2 ∧ Int32.toInt l2 < 128 then
            if 0 ≤ Int32.toInt (z15.1 15 (Int32.toNatClampNeg l2)) ∧ Int32.toInt (z15.1 15 (Int32.toNatClampNeg l2)) < 128 then
              T_X3_listSquares_118 (q_u2 z15.1 14 (Int32.toNatClampNeg (z15.1 15 (Int32.toNatClampNeg l2))) (-1), z15.2) l1 l2
            else none
          else none
    else none
set_option maxRecDepth 100000 in
set_option maxHeartbeats 4000000 in
theorem b_X3_listSquares_85 {s s2 : Int32 × Int32 × q_Z} {t : Nat} {r : Option Value} {h2 : q_H} (h : B_X3_listSquares_85 s = some (s2, t)) (k0 : t = 0 → q_Ex none 31 85 [(0, .ref 2), (1, .int s2.1), (2, .int s2.2.1)] [] (q_K0, s2.2.2.1, s2.2.2.2, q_R0) r h2) (k1 : t = 1 → q_Ex none 31 124 [(0, .ref 2), (1, .int s2.1), (2, .int s2.2.1)] [] (q_K0, s2.2.2.1, s2.2.2.2, q_R0) r h2) : q_Ex none 31 85 [(0, .ref 2), (1, .int s.1), (2, .int s.2.1)] [] (q_K0, s.2.2.1, s.2.2.2, q_R0) r h2 := by
  unfold B_X3_listSquares_85 at h
  obtain ⟨l1, l2, z⟩ := s
  dsimp only at h
  show q_Ex none 31 85 [(0, .ref 2), (1, .int l1), (2, .int l2)] [] (q_K0, z.1, z.2, q_R0) r h2
  refine q_blk2 (pc2 := 87) (ls2 := [(0, .ref 2), (1, .int l1), (2, .int l2)]) (st2 := [.int l1, .int l2]) (h2 := (q_K0, z.1, z.2, q_R0)) [(.iload_n 2, 0, 0, 0, 0, 0), (.iload_n 1, 0, 0, 0, 0, 0)] (by decide +kernel) rfl rfl ⟨trivial, trivial, trivial⟩ ?_
  refine q_ic_ge (off := 37) (tgt := 124) (by decide +kernel) (by decide) (fun c87_1 => ?_) (fun c87_1 => ?_)
  · rw [if_pos c87_1] at h
    cases h
    refine q_pick [0, 1, 2] rfl ?_
    exact k1 rfl
  · rw [if_neg c87_1] at h
    have b13 : 0 ≤ Int32.toInt l2 ∧ Int32.toInt l2 < 128 := by
      by_cases q : 0 ≤ Int32.toInt l2 ∧ Int32.toInt l2 < 128
      · exact q
      · rw [if_neg q] at h; cases h
    rw [if_pos b13] at h
    refine q_blk2 (pc2 := 100) (ls2 := [(0, .ref 2), (1, .int l1), (2, .int l2)]) (st2 := [.int (z.1 15 (Int32.toNatClampNeg l2)), .ref 3]) (h2 := (q_K0, z.1, z.2, q_R0)) [(.aload_n 0, 0, 0, 0, 0, 0), (.getfield 12, 0, 3, 0, 0, 0), (.aload_n 0, 0, 0, 0, 0, 0), (.getfield 25, 0, 3, 3, 0, 0), (.iload_n 2, 0, 0, 0, 0, 0), (.iaload, 0, 0, 0, 0, 0)] (by decide +kernel) rfl rfl ⟨trivial, rfl, trivial, rfl, trivial, ⟨_, rfl, vp_in_iff.mpr b13⟩, trivial⟩ ?_
    obtain ⟨⟨r14, z15⟩, hc18, h⟩ := Option.bind_eq_some_iff.mp h
    dsimp only at h
    refine q_cV1 (idx := 71) (v := .int r14) (h1 := (q_K0, z15.1, z15.2, q_R0)) [.int (z.1 15 (Int32.toNatClampNeg l2)), .ref 3] 1 3 0 [.int (z.1 15 (Int32.toNatClampNeg l2))] [] rfl (by decide +kernel) (by decide +kernel) rfl (Nat.le_of_ble_eq_true rfl) rfl (by decide) (by decide +kernel) (by decide +kernel) (s_X0_hasClass hc18) ?_
    refine q_if_eq (off := 15) (tgt := 118) (by decide +kernel) (by decide) (fun c103_2 => ?_) (fun c103_2 => ?_)
    · rw [if_pos c103_2] at h
      refine q_pick [0, 1, 2] rfl ?_
      exact t_X3_listSquares_118 h k0 k1
    · rw [if_neg c103_2] at h
      have b16 : 0 ≤ Int32.toInt l2 ∧ Int32.toInt l2 < 128 := by
        by_cases q : 0 ≤ Int32.toInt l2 ∧ Int32.toInt l2 < 128
        · exact q
        · rw [if_neg q] at h; cases h
      rw [if_pos b16] at h
      have b17 : 0 ≤ Int32.toInt (z15.1 15 (Int32.toNatClampNeg l2)) ∧ Int32.toInt (z15.1 15 (Int32.toNatClampNeg l2)) < 128 := by
        by_cases q : 0 ≤ Int32.toInt (z15.1 15 (Int32.toNatClampNeg l2)) ∧ Int32.toInt (z15.1 15 (Int32.toNatClampNeg l2)) < 128
        · exact q
        · rw [if_neg q] at h; cases h
      rw [if_pos b17] at h
      refine q_blk2 (pc2 := 118) (ls2 := [(0, .ref 2), (1, .int l1), (2, .int l2)]) (st2 := []) (h2 := (q_K0, q_u2 z15.1 14 (Int32.toNatClampNeg (z15.1 15 (Int32.toNatClampNeg l2))) (-1), z15.2, q_R0)) [(.aload_n 0, 0, 0, 0, 0, 0), (.getfield 22, 0, 3, 2, 0, 0), (.aload_n 0, 0, 0, 0, 0, 0), (.getfield 25, 0, 3, 3, 0, 0), (.iload_n 2, 0, 0, 0, 0, 0), (.iaload, 0, 0, 0, 0, 0), (.iconst (-1), 0, 0, 0, (-1), 0), (.iastore, 0, 0, 0, 0, 0)] (by decide +kernel) rfl rfl ⟨trivial, rfl, trivial, rfl, trivial, ⟨_, rfl, vp_in_iff.mpr b16⟩, trivial, ⟨_, rfl, vp_in_iff.mpr b17⟩, trivial⟩ ?_
      refine q_pick [0, 1, 2] rfl ?_
      exact t_X3_listSquares_118 h k0 k1
def T_X3_listSquares_83 (z : q_Z) (l1 : Int32) : Option (Int32 × q_Z) :=
  (q_lp (B_X3_listSquares_85) q_fu (l1, 0, z)).bind fun ((w20, w21, z19), tg) =>
    if tg = 0 then
      some (w20, z19)
    else none
set_option maxRecDepth 100000 in
set_option maxHeartbeats 4000000 in
theorem t_X3_listSquares_83 {z zR : q_Z} {l1 : Int32} {rv : Int32} (h : T_X3_listSquares_83 z l1 = some (rv, zR)) : q_Ex none 31 83 [(0, .ref 2), (1, .int l1)] [] (q_K0, z.1, z.2, q_R0) (some (.int rv)) (q_K0, zR.1, zR.2, q_R0) := by
  unfold T_X3_listSquares_83 at h
  refine q_blk2 (pc2 := 85) (ls2 := [(2, .int 0), (0, .ref 2), (1, .int l1)]) (st2 := []) (h2 := (q_K0, z.1, z.2, q_R0)) [(.iconst 0, 0, 0, 0, 0, 0), (.istore_n 2, 0, 0, 0, 0, 0)] (by decide +kernel) rfl rfl ⟨trivial, trivial, trivial⟩ ?_
  obtain ⟨⟨⟨w20, w21, z19⟩, tg23⟩, hl22, h⟩ := Option.bind_eq_some_iff.mp h
  dsimp only at h
  refine q_pick [1, 2, 0] rfl ?_
  refine q_lp_ok (P := fun s => q_Ex _ 31 85 [(0, .ref 2), (1, .int s.1), (2, .int s.2.1)] [] (q_K0, s.2.2.1, s.2.2.2, q_R0) _ _) (X := fun u s => (u = 0 → q_Ex _ 31 124 [(0, .ref 2), (1, .int s.1), (2, .int s.2.1)] [] (q_K0, s.2.2.1, s.2.2.2, q_R0) _ _)) (fun s s2 t hh k0 kx => b_X3_listSquares_85 hh k0 (fun e => (kx 0 e) rfl)) hl22 ?_
  · intro e_tg23
    subst e_tg23
    rw [if_pos rfl] at h
    show q_Ex _ 31 124 [(0, .ref 2), (1, .int w20), (2, .int w21)] [] (q_K0, z19.1, z19.2, q_R0) _ _
    refine q_blk2 (pc2 := 125) (ls2 := [(0, .ref 2), (1, .int w20), (2, .int w21)]) (st2 := [.int w20]) (h2 := (q_K0, z19.1, z19.2, q_R0)) [(.iload_n 1, 0, 0, 0, 0, 0)] (by decide +kernel) rfl rfl ⟨trivial, trivial⟩ ?_
    cases h
    exact q_iret .int rfl rfl (by decide +kernel)
/-- RootForms$GroupTable.listSquares()I -/
def F_X3_listSquares (z : q_Z) : Option (Int32 × q_Z) :=
  (q_lp (B_X3_listSquares_4) q_fu (0, 0, z)).bind fun ((w11, w12, z10), tg) =>
    if tg = 0 then
      T_X3_listSquares_83 z10 w11
    else none
set_option maxRecDepth 100000 in
set_option maxHeartbeats 4000000 in
theorem s_X3_listSquares {z zR : q_Z} {rv : Int32} (h : F_X3_listSquares z = some (rv, zR)) : q_Ca 31 [.ref 2] (q_K0, z.1, z.2, q_R0) (some (.int rv)) (q_K0, zR.1, zR.2, q_R0) := by
  refine q_Ca_of (by decide) (Nat.le_of_ble_eq_true rfl) ?_
  show q_Ex none 31 0 [(0, .ref 2)] [] (q_K0, z.1, z.2, q_R0) _ _
  unfold F_X3_listSquares at h
  refine q_blk2 (pc2 := 4) (ls2 := [(2, .int 0), (1, .int 0), (0, .ref 2)]) (st2 := []) (h2 := (q_K0, z.1, z.2, q_R0)) [(.iconst 0, 0, 0, 0, 0, 0), (.istore_n 1, 0, 0, 0, 0, 0), (.iconst 0, 0, 0, 0, 0, 0), (.istore_n 2, 0, 0, 0, 0, 0)] (by decide +kernel) rfl rfl ⟨trivial, trivial, trivial, trivial, trivial⟩ ?_
  obtain ⟨⟨⟨w11, w12, z10⟩, tg25⟩, hl24, h⟩ := Option.bind_eq_some_iff.mp h
  dsimp only at h
  refine q_pick [2, 1, 0] rfl ?_
  refine q_lp_ok (P := fun s => q_Ex _ 31 4 [(0, .ref 2), (1, .int s.1), (2, .int s.2.1)] [] (q_K0, s.2.2.1, s.2.2.2, q_R0) _ _) (X := fun u s => (u = 0 → q_Ex _ 31 83 [(0, .ref 2), (1, .int s.1), (2, .int s.2.1)] [] (q_K0, s.2.2.1, s.2.2.2, q_R0) _ _)) (fun s s2 t hh k0 kx => b_X3_listSquares_4 hh k0 (fun e => (kx 0 e) rfl)) hl24 ?_
  · intro e_tg25
    subst e_tg25
    rw [if_pos rfl] at h
    show q_Ex _ 31 83 [(0, .ref 2), (1, .int w11), (2, .int w12)] [] (q_K0, z10.1, z10.2, q_R0) _ _
    refine q_pick [0, 1] rfl ?_
    exact t_X3_listSquares_83 h
def T_X3_numberGenera_91 (z : q_Z) (l1 : Int32) (l2 : Int32) (l3 : Int32) : Option ((Int32 × Int32 × Int32 × q_Z) × Nat) :=
  some ((l1, l2, l3 + 1, z), 0)
set_option maxRecDepth 100000 in
set_option maxHeartbeats 4000000 in
theorem t_X3_numberGenera_91 {z : q_Z} {l1 : Int32} {l2 : Int32} {l3 : Int32} {s2 : Int32 × Int32 × Int32 × q_Z} {t : Nat} {r : Option Value} {h2 : q_H} (h : T_X3_numberGenera_91 z l1 l2 l3 = some (s2, t)) (k0 : t = 0 → q_Ex none 30 40 [(0, .ref 2), (1, .int s2.1), (2, .int s2.2.1), (3, .int s2.2.2.1)] [] (q_K0, s2.2.2.2.1, s2.2.2.2.2, q_R0) r h2) (k1 : t = 1 → q_Ex none 30 97 [(0, .ref 2), (1, .int s2.1), (2, .int s2.2.1), (3, .int s2.2.2.1)] [] (q_K0, s2.2.2.2.1, s2.2.2.2.2, q_R0) r h2) : q_Ex none 30 91 [(0, .ref 2), (1, .int l1), (2, .int l2), (3, .int l3)] [] (q_K0, z.1, z.2, q_R0) r h2 := by
  unfold T_X3_numberGenera_91 at h
  refine q_blk2 (pc2 := 94) (ls2 := [(3, .int (l3 + 1)), (0, .ref 2), (1, .int l1), (2, .int l2)]) (st2 := []) (h2 := (q_K0, z.1, z.2, q_R0)) [(.iinc 3 1, 0, 0, 0, 1, 0)] (by decide +kernel) rfl rfl ⟨trivial, trivial⟩ ?_
  refine q_goto (off := -54) (tgt := 40) (by decide +kernel) (by decide) ?_
  cases h
  refine q_pick [1, 2, 3, 0] rfl ?_
  exact k0 rfl
def B_X3_numberGenera_40 : Int32 × Int32 × Int32 × q_Z → Option ((Int32 × Int32 × Int32 × q_Z) × Nat) := fun (l1, l2, l3, z) =>
  if l1 ≤ l3 then
    some ((l1, l2, l3, z), 1)
  else
    if (128 : Int32) ≤ l3 then
      some ((l1, l2, l3, z), 1)
    else
      if 0 ≤ Int32.toInt l3 ∧ Int32.toInt l3 < 128 then
        (F_X0_joined z l2 (z.1 15 (Int32.toNatClampNeg l3))).bind fun (r3, z4) =>
          (F_X0_hasClass z4 r3).bind fun (r5, z6) =>
            if r5 = (0 : Int32) then
              T_X3_numberGenera_91 z6 l1 l2 l3
            else
              if 0 ≤ Int32.toInt r3 ∧ Int32.toInt r3 < 128 then
                T_X3_numberGenera_91 (q_u2 z6.1 14 (Int32.toNatClampNeg r3) (z6.1 2 6), z6.2) l1 l2 l3
              else none
      else none
set_option maxRecDepth 100000 in
set_option maxHeartbeats 4000000 in
theorem b_X3_numberGenera_40 {s s2 : Int32 × Int32 × Int32 × q_Z} {t : Nat} {r : Option Value} {h2 : q_H} (h : B_X3_numberGenera_40 s = some (s2, t)) (k0 : t = 0 → q_Ex none 30 40 [(0, .ref 2), (1, .int s2.1), (2, .int s2.2.1), (3, .int s2.2.2.1)] [] (q_K0, s2.2.2.2.1, s2.2.2.2.2, q_R0) r h2) (k1 : t = 1 → q_Ex none 30 97 [(0, .ref 2), (1, .int s2.1), (2, .int s2.2.1), (3, .int s2.2.2.1)] [] (q_K0, s2.2.2.2.1, s2.2.2.2.2, q_R0) r h2) : q_Ex none 30 40 [(0, .ref 2), (1, .int s.1), (2, .int s.2.1), (3, .int s.2.2.1)] [] (q_K0, s.2.2.2.1, s.2.2.2.2, q_R0) r h2 := by
  unfold B_X3_numberGenera_40 at h
  obtain ⟨l1, l2, l3, z⟩ := s
  dsimp only at h
  show q_Ex none 30 40 [(0, .ref 2), (1, .int l1), (2, .int l2), (3, .int l3)] [] (q_K0, z.1, z.2, q_R0) r h2
  refine q_blk2 (pc2 := 42) (ls2 := [(0, .ref 2), (1, .int l1), (2, .int l2), (3, .int l3)]) (st2 := [.int l1, .int l3]) (h2 := (q_K0, z.1, z.2, q_R0)) [(.iload_n 3, 0, 0, 0, 0, 0), (.iload_n 1, 0, 0, 0, 0, 0)] (by decide +kernel) rfl rfl ⟨trivial, trivial, trivial⟩ ?_
  refine q_ic_ge (off := 55) (tgt := 97) (by decide +kernel) (by decide) (fun c42_1 => ?_) (fun c42_1 => ?_)
  · rw [if_pos c42_1] at h
    cases h
    refine q_pick [0, 1, 2, 3] rfl ?_
    exact k1 rfl
  · rw [if_neg c42_1] at h
    refine q_blk2 (pc2 := 49) (ls2 := [(0, .ref 2), (1, .int l1), (2, .int l2), (3, .int l3)]) (st2 := [.int 128, .int l3]) (h2 := (q_K0, z.1, z.2, q_R0)) [(.iload_n 3, 0, 0, 0, 0, 0), (.sipush 128, 0, 0, 0, 128, 0)] (by decide +kernel) rfl rfl ⟨trivial, trivial, trivial⟩ ?_
    refine q_ic_ge (off := 48) (tgt := 97) (by decide +kernel) (by decide) (fun c49_2 => ?_) (fun c49_2 => ?_)
    · rw [if_pos c49_2] at h
      cases h
      refine q_pick [0, 1, 2, 3] rfl ?_
      exact k1 rfl
    · rw [if_neg c49_2] at h
      have b2 : 0 ≤ Int32.toInt l3 ∧ Int32.toInt l3 < 128 := by
        by_cases q : 0 ≤ Int32.toInt l3 ∧ Int32.toInt l3 < 128
        · exact q
        · rw [if_neg q] at h; cases h
      rw [if_pos b2] at h
      refine q_blk2 (pc2 := 63) (ls2 := [(0, .ref 2), (1, .int l1), (2, .int l2), (3, .int l3)]) (st2 := [.int (z.1 15 (Int32.toNatClampNeg l3)), .int l2, .ref 3]) (h2 := (q_K0, z.1, z.2, q_R0)) [(.aload_n 0, 0, 0, 0, 0, 0), (.getfield 12, 0, 3, 0, 0, 0), (.iload_n 2, 0, 0, 0, 0, 0), (.aload_n 0, 0, 0, 0, 0, 0), (.getfield 25, 0, 3, 3, 0, 0), (.iload_n 3, 0, 0, 0, 0, 0), (.iaload, 0, 0, 0, 0, 0)] (by decide +kernel) rfl rfl ⟨trivial, rfl, trivial, trivial, rfl, trivial, ⟨_, rfl, vp_in_iff.mpr b2⟩, trivial⟩ ?_
      obtain ⟨⟨r3, z4⟩, hc8, h⟩ := Option.bind_eq_some_iff.mp h
      dsimp only at h
      refine q_cV1 (idx := 56) (v := .int r3) (h1 := (q_K0, z4.1, z4.2, q_R0)) [.int (z.1 15 (Int32.toNatClampNeg l3)), .int l2, .ref 3] 10 3 0 [.int l2, .int (z.1 15 (Int32.toNatClampNeg l3))] [] rfl (by decide +kernel) (by decide +kernel) rfl (Nat.le_of_ble_eq_true rfl) rfl (by decide) (by decide +kernel) (by decide +kernel) (s_X0_joined hc8) ?_
      refine q_blk2 (pc2 := 74) (ls2 := [(4, .int r3), (0, .ref 2), (1, .int l1), (2, .int l2), (3, .int l3)]) (st2 := [.int r3, .ref 3]) (h2 := (q_K0, z4.1, z4.2, q_R0)) [(.istore 4, 0, 0, 0, 0, 0), (.aload_n 0, 0, 0, 0, 0, 0), (.getfield 12, 0, 3, 0, 0, 0), (.iload 4, 0, 0, 0, 0, 0)] (by decide +kernel) rfl rfl ⟨trivial, trivial, rfl, trivial, trivial⟩ ?_
      obtain ⟨⟨r5, z6⟩, hc9, h⟩ := Option.bind_eq_some_iff.mp h
      dsimp only at h
      refine q_cV1 (idx := 71) (v := .int r5) (h1 := (q_K0, z6.1, z6.2, q_R0)) [.int r3, .ref 3] 1 3 0 [.int r3] [] rfl (by decide +kernel) (by decide +kernel) rfl (Nat.le_of_ble_eq_true rfl) rfl (by decide) (by decide +kernel) (by decide +kernel) (s_X0_hasClass hc9) ?_
      refine q_if_eq (off := 14) (tgt := 91) (by decide +kernel) (by decide) (fun c77_3 => ?_) (fun c77_3 => ?_)
      · rw [if_pos c77_3] at h
        refine q_pick [1, 2, 3, 4] rfl ?_
        exact t_X3_numberGenera_91 h k0 k1
      · rw [if_neg c77_3] at h
        have b7 : 0 ≤ Int32.toInt r3 ∧ Int32.toInt r3 < 128 := by
          by_cases q : 0 ≤ Int32.toInt r3 ∧ Int32.toInt r3 < 128
          · exact q
          · rw [if_neg q] at h; cases h
        rw [if_pos b7] at h
        refine q_blk2 (pc2 := 91) (ls2 := [(4, .int r3), (0, .ref 2), (1, .int l1), (2, .int l2), (3, .int l3)]) (st2 := []) (h2 := (q_K0, q_u2 z6.1 14 (Int32.toNatClampNeg r3) (z6.1 2 6), z6.2, q_R0)) [(.aload_n 0, 0, 0, 0, 0, 0), (.getfield 22, 0, 3, 2, 0, 0), (.iload 4, 0, 0, 0, 0, 0), (.aload_n 0, 0, 0, 0, 0, 0), (.getfield 86, 0, 3, 6, 0, 0), (.iastore, 0, 0, 0, 0, 0)] (by decide +kernel) rfl rfl ⟨trivial, rfl, trivial, trivial, rfl, ⟨_, rfl, vp_in_iff.mpr b7⟩, trivial⟩ ?_
        refine q_pick [1, 2, 3, 4] rfl ?_
        exact t_X3_numberGenera_91 h k0 k1
def T_X3_numberGenera_107 (z : q_Z) (l1 : Int32) (l2 : Int32) : Option ((Int32 × Int32 × q_Z) × Nat) :=
  some ((l1, l2 + 1, z), 0)
set_option maxRecDepth 100000 in
set_option maxHeartbeats 4000000 in
theorem t_X3_numberGenera_107 {z : q_Z} {l1 : Int32} {l2 : Int32} {s2 : Int32 × Int32 × q_Z} {t : Nat} {r : Option Value} {h2 : q_H} (h : T_X3_numberGenera_107 z l1 l2 = some (s2, t)) (k0 : t = 0 → q_Ex none 30 7 [(0, .ref 2), (1, .int s2.1), (2, .int s2.2.1)] [] (q_K0, s2.2.2.1, s2.2.2.2, q_R0) r h2) (k1 : t = 1 → q_Ex none 30 113 [(0, .ref 2), (1, .int s2.1), (2, .int s2.2.1)] [] (q_K0, s2.2.2.1, s2.2.2.2, q_R0) r h2) : q_Ex none 30 107 [(0, .ref 2), (1, .int l1), (2, .int l2)] [] (q_K0, z.1, z.2, q_R0) r h2 := by
  unfold T_X3_numberGenera_107 at h
  refine q_blk2 (pc2 := 110) (ls2 := [(2, .int (l2 + 1)), (0, .ref 2), (1, .int l1)]) (st2 := []) (h2 := (q_K0, z.1, z.2, q_R0)) [(.iinc 2 1, 0, 0, 0, 1, 0)] (by decide +kernel) rfl rfl ⟨trivial, trivial⟩ ?_
  refine q_goto (off := -103) (tgt := 7) (by decide +kernel) (by decide) ?_
  cases h
  refine q_pick [1, 2, 0] rfl ?_
  exact k0 rfl
def T_X3_numberGenera_97 (z : q_Z) (l1 : Int32) (l2 : Int32) : Option ((Int32 × Int32 × q_Z) × Nat) :=
  T_X3_numberGenera_107 (q_u2 z.1 2 6 ((z.1 2 6) + 1), z.2) l1 l2
set_option maxRecDepth 100000 in
set_option maxHeartbeats 4000000 in
theorem t_X3_numberGenera_97 {z : q_Z} {l1 : Int32} {l2 : Int32} {s2 : Int32 × Int32 × q_Z} {t : Nat} {r : Option Value} {h2 : q_H} (h : T_X3_numberGenera_97 z l1 l2 = some (s2, t)) (k0 : t = 0 → q_Ex none 30 7 [(0, .ref 2), (1, .int s2.1), (2, .int s2.2.1)] [] (q_K0, s2.2.2.1, s2.2.2.2, q_R0) r h2) (k1 : t = 1 → q_Ex none 30 113 [(0, .ref 2), (1, .int s2.1), (2, .int s2.2.1)] [] (q_K0, s2.2.2.1, s2.2.2.2, q_R0) r h2) : q_Ex none 30 97 [(0, .ref 2), (1, .int l1), (2, .int l2)] [] (q_K0, z.1, z.2, q_R0) r h2 := by
  unfold T_X3_numberGenera_97 at h
  refine q_blk2 (pc2 := 107) (ls2 := [(0, .ref 2), (1, .int l1), (2, .int l2)]) (st2 := []) (h2 := (q_K0, q_u2 z.1 2 6 ((z.1 2 6) + 1), z.2, q_R0)) [(.aload_n 0, 0, 0, 0, 0, 0), (.dup, 0, 0, 0, 0, 0), (.getfield 86, 0, 3, 6, 0, 0), (.iconst 1, 0, 0, 0, 1, 0), (.iadd, 0, 0, 0, 0, 0), (.putfield 86, 0, 3, 6, 0, 0)] (by decide +kernel) rfl rfl ⟨trivial, trivial, rfl, trivial, trivial, ⟨rfl, rfl, rfl⟩, trivial⟩ ?_
  refine q_pick [0, 1, 2] rfl ?_
  exact t_X3_numberGenera_107 h k0 k1
def B_X3_numberGenera_7 : Int32 × Int32 × q_Z → Option ((Int32 × Int32 × q_Z) × Nat) := fun (l1, l2, z) =>
  if (128 : Int32) ≤ l2 then
    some ((l1, l2, z), 1)
  else
    if (z.1 3 10) ≤ l2 then
      some ((l1, l2, z), 1)
    else
      if 0 ≤ Int32.toInt l2 ∧ Int32.toInt l2 < 128 then
        if (z.1 14 (Int32.toNatClampNeg l2)) = (-1 : Int32) then
          (q_lp (B_X3_numberGenera_40) q_fu (l1, l2, 0, z)).bind fun ((w11, w12, w13, z10), tg) =>
            if tg = 0 then
              T_X3_numberGenera_97 z10 w11 w12
            else none
        else
          T_X3_numberGenera_107 z l1 l2
      else none
set_option maxRecDepth 100000 in
set_option maxHeartbeats 4000000 in
theorem b_X3_numberGenera_7 {s s2 : Int32 × Int32 × q_Z} {t : Nat} {r : Option Value} {h2 : q_H} (h : B_X3_numberGenera_7 s = some (s2, t)) (k0 : t = 0 → q_Ex none 30 7 [(0, .ref 2), (1, .int s2.1), (2, .int s2.2.1)] [] (q_K0, s2.2.2.1, s2.2.2.2, q_R0) r h2) (k1 : t = 1 → q_Ex none 30 113 [(0, .ref 2), (1, .int s2.1), (2, .int s2.2.1)] [] (q_K0, s2.2.2.1, s2.2.2.2, q_R0) r h2) : q_Ex none 30 7 [(0, .ref 2), (1, .int s.1), (2, .int s.2.1)] [] (q_K0, s.2.2.1, s.2.2.2, q_R0) r h2 := by
  unfold B_X3_numberGenera_7 at h
  obtain ⟨l1, l2, z⟩ := s
  dsimp only at h
  show q_Ex none 30 7 [(0, .ref 2), (1, .int l1), (2, .int l2)] [] (q_K0, z.1, z.2, q_R0) r h2
  refine q_blk2 (pc2 := 11) (ls2 := [(0, .ref 2), (1, .int l1), (2, .int l2)]) (st2 := [.int 128, .int l2]) (h2 := (q_K0, z.1, z.2, q_R0)) [(.iload_n 2, 0, 0, 0, 0, 0), (.sipush 128, 0, 0, 0, 128, 0)] (by decide +kernel) rfl rfl ⟨trivial, trivial, trivial⟩ ?_
  refine q_ic_ge (off := 102) (tgt := 113) (by decide +kernel) (by decide) (fun c11_1 => ?_) (fun c11_1 => ?_)
  · rw [if_pos c11_1] at h
    cases h
    refine q_pick [0, 1, 2] rfl ?_
    exact k1 rfl
  · rw [if_neg c11_1] at h
    refine q_blk2 (pc2 := 22) (ls2 := [(0, .ref 2), (1, .int l1), (2, .int l2)]) (st2 := [.int (z.1 3 10), .int l2]) (h2 := (q_K0, z.1, z.2, q_R0)) [(.iload_n 2, 0, 0, 0, 0, 0), (.aload_n 0, 0, 0, 0, 0, 0), (.getfield 12, 0, 3, 0, 0, 0), (.getfield 39, 0, 0, 10, 0, 0)] (by decide +kernel) rfl rfl ⟨trivial, trivial, rfl, rfl, trivial⟩ ?_
    refine q_ic_ge (off := 91) (tgt := 113) (by decide +kernel) (by decide) (fun c22_2 => ?_) (fun c22_2 => ?_)
    · rw [if_pos c22_2] at h
      cases h
      refine q_pick [0, 1, 2] rfl ?_
      exact k1 rfl
    · rw [if_neg c22_2] at h
      have b1 : 0 ≤ Int32.toInt l2 ∧ Int32.toInt l2 < 128 := by
        by_cases q : 0 ≤ Int32.toInt l2 ∧ Int32.toInt l2 < 128
        · exact q
        · rw [if_neg q] at h; cases h
      rw [if_pos b1] at h
      refine q_blk2 (pc2 := 32) (ls2 := [(0, .ref 2), (1, .int l1), (2, .int l2)]) (st2 := [.int (-1), .int (z.1 14 (Int32.toNatClampNeg l2))]) (h2 := (q_K0, z.1, z.2, q_R0)) [(.aload_n 0, 0, 0, 0, 0, 0), (.getfield 22, 0, 3, 2, 0, 0), (.iload_n 2, 0, 0, 0, 0, 0), (.iaload, 0, 0, 0, 0, 0), (.iconst (-1), 0, 0, 0, (-1), 0)] (by decide +kernel) rfl rfl ⟨trivial, rfl, trivial, ⟨_, rfl, vp_in_iff.mpr b1⟩, trivial, trivial⟩ ?_
      refine q_ic_eq (off := 6) (tgt := 38) (by decide +kernel) (by decide) (fun c32_3 => ?_) (fun c32_3 => ?_)
      · rw [if_pos c32_3] at h
        refine q_blk2 (pc2 := 40) (ls2 := [(3, .int 0), (0, .ref 2), (1, .int l1), (2, .int l2)]) (st2 := []) (h2 := (q_K0, z.1, z.2, q_R0)) [(.iconst 0, 0, 0, 0, 0, 0), (.istore_n 3, 0, 0, 0, 0, 0)] (by decide +kernel) rfl rfl ⟨trivial, trivial, trivial⟩ ?_
        obtain ⟨⟨⟨w11, w12, w13, z10⟩, tg15⟩, hl14, h⟩ := Option.bind_eq_some_iff.mp h
        dsimp only at h
        refine q_pick [1, 2, 3, 0] rfl ?_
        refine q_lp_ok (P := fun s => q_Ex _ 30 40 [(0, .ref 2), (1, .int s.1), (2, .int s.2.1), (3, .int s.2.2.1)] [] (q_K0, s.2.2.2.1, s.2.2.2.2, q_R0) _ _) (X := fun u s => (u = 0 → q_Ex _ 30 97 [(0, .ref 2), (1, .int s.1), (2, .int s.2.1), (3, .int s.2.2.1)] [] (q_K0, s.2.2.2.1, s.2.2.2.2, q_R0) _ _)) (fun s s2 t hh k0 kx => b_X3_numberGenera_40 hh k0 (fun e => (kx 0 e) rfl)) hl14 ?_
        · intro e_tg15
          subst e_tg15
          rw [if_pos rfl] at h
          show q_Ex _ 30 97 [(0, .ref 2), (1, .int w11), (2, .int w12), (3, .int w13)] [] (q_K0, z10.1, z10.2, q_R0) _ _
          refine q_pick [0, 1, 2] rfl ?_
          exact t_X3_numberGenera_97 h k0 k1
      · rw [if_neg c32_3] at h
        refine q_goto (off := 72) (tgt := 107) (by decide +kernel) (by decide) ?_
        refine q_pick [0, 1, 2] rfl ?_
        exact t_X3_numberGenera_107 h k0 k1
/-- RootForms$GroupTable.numberGenera(I)V -/
def F_X3_numberGenera (z : q_Z) (l1 : Int32) : Option (Unit × q_Z) :=
  (q_lp (B_X3_numberGenera_7) q_fu (l1, 0, (q_u2 z.1 2 6 0, z.2))).bind fun ((w17, w18, z16), tg) =>
    if tg = 0 then
      some ((), z16)
    else none
set_option maxRecDepth 100000 in
set_option maxHeartbeats 4000000 in
theorem s_X3_numberGenera {z zR : q_Z} {l1 : Int32} {rv : Unit} (h : F_X3_numberGenera z l1 = some (rv, zR)) : q_Ca 30 [.ref 2, .int l1] (q_K0, z.1, z.2, q_R0) none (q_K0, zR.1, zR.2, q_R0) := by
  refine q_Ca_of (by decide) (Nat.le_of_ble_eq_true rfl) ?_
  show q_Ex none 30 0 [(0, .ref 2), (1, .int l1)] [] (q_K0, z.1, z.2, q_R0) _ _
  unfold F_X3_numberGenera at h
  refine q_blk2 (pc2 := 7) (ls2 := [(2, .int 0), (0, .ref 2), (1, .int l1)]) (st2 := []) (h2 := (q_K0, q_u2 z.1 2 6 0, z.2, q_R0)) [(.aload_n 0, 0, 0, 0, 0, 0), (.iconst 0, 0, 0, 0, 0, 0), (.putfield 86, 0, 3, 6, 0, 0), (.iconst 0, 0, 0, 0, 0, 0), (.istore_n 2, 0, 0, 0, 0, 0)] (by decide +kernel) rfl rfl ⟨trivial, trivial, ⟨rfl, rfl, rfl⟩, trivial, trivial, trivial⟩ ?_
  obtain ⟨⟨⟨w17, w18, z16⟩, tg20⟩, hl19, h⟩ := Option.bind_eq_some_iff.mp h
  dsimp only at h
  refine q_pick [1, 2, 0] rfl ?_
  refine q_lp_ok (P := fun s => q_Ex _ 30 7 [(0, .ref 2), (1, .int s.1), (2, .int s.2.1)] [] (q_K0, s.2.2.1, s.2.2.2, q_R0) _ _) (X := fun u s => (u = 0 → q_Ex _ 30 113 [(0, .ref 2), (1, .int s.1), (2, .int s.2.1)] [] (q_K0, s.2.2.1, s.2.2.2, q_R0) _ _)) (fun s s2 t hh k0 kx => b_X3_numberGenera_7 hh k0 (fun e => (kx 0 e) rfl)) hl19 ?_
  · intro e_tg20
    subst e_tg20
    rw [if_pos rfl] at h
    show q_Ex _ 30 113 [(0, .ref 2), (1, .int w17), (2, .int w18)] [] (q_K0, z16.1, z16.2, q_R0) _ _
    cases h
    exact q_vret rfl (by decide +kernel)
def B_X3_prepare_35 : Int32 × q_Z → Option ((Int32 × q_Z) × Nat) := fun (l1, z) =>
  if (128 : Int32) ≤ l1 then
    some ((l1, z), 1)
  else
    if 0 ≤ Int32.toInt l1 ∧ Int32.toInt l1 < 128 then
      some ((l1 + 1, (q_u2 (q_u2 z.1 13 (Int32.toNatClampNeg l1) 0) 14 (Int32.toNatClampNeg l1) (-1), z.2)), 0)
    else none
set_option maxRecDepth 100000 in
set_option maxHeartbeats 4000000 in
theorem b_X3_prepare_35 {s s2 : Int32 × q_Z} {t : Nat} {r : Option Value} {h2 : q_H} (h : B_X3_prepare_35 s = some (s2, t)) (k0 : t = 0 → q_Ex none 25 35 [(0, .ref 2), (1, .int s2.1)] [] (q_K0, s2.2.1, s2.2.2, q_R0) r h2) (k1 : t = 1 → q_Ex none 25 62 [(0, .ref 2), (1, .int s2.1)] [] (q_K0, s2.2.1, s2.2.2, q_R0) r h2) : q_Ex none 25 35 [(0, .ref 2), (1, .int s.1)] [] (q_K0, s.2.1, s.2.2, q_R0) r h2 := by
  unfold B_X3_prepare_35 at h
  obtain ⟨l1, z⟩ := s
  dsimp only at h
  show q_Ex none 25 35 [(0, .ref 2), (1, .int l1)] [] (q_K0, z.1, z.2, q_R0) r h2
  refine q_blk2 (pc2 := 39) (ls2 := [(0, .ref 2), (1, .int l1)]) (st2 := [.int 128, .int l1]) (h2 := (q_K0, z.1, z.2, q_R0)) [(.iload_n 1, 0, 0, 0, 0, 0), (.sipush 128, 0, 0, 0, 128, 0)] (by decide +kernel) rfl rfl ⟨trivial, trivial, trivial⟩ ?_
  refine q_ic_ge (off := 23) (tgt := 62) (by decide +kernel) (by decide) (fun c39_1 => ?_) (fun c39_1 => ?_)
  · rw [if_pos c39_1] at h
    cases h
    refine q_pick [0, 1] rfl ?_
    exact k1 rfl
  · rw [if_neg c39_1] at h
    have b3 : 0 ≤ Int32.toInt l1 ∧ Int32.toInt l1 < 128 := by
      by_cases q : 0 ≤ Int32.toInt l1 ∧ Int32.toInt l1 < 128
      · exact q
      · rw [if_neg q] at h; cases h
    rw [if_pos b3] at h
    refine q_blk2 (pc2 := 59) (ls2 := [(1, .int (l1 + 1)), (0, .ref 2)]) (st2 := []) (h2 := (q_K0, q_u2 (q_u2 z.1 13 (Int32.toNatClampNeg l1) 0) 14 (Int32.toNatClampNeg l1) (-1), z.2, q_R0)) [(.aload_n 0, 0, 0, 0, 0, 0), (.getfield 18, 0, 3, 1, 0, 0), (.iload_n 1, 0, 0, 0, 0, 0), (.iconst 0, 0, 0, 0, 0, 0), (.iastore, 0, 0, 0, 0, 0), (.aload_n 0, 0, 0, 0, 0, 0), (.getfield 22, 0, 3, 2, 0, 0), (.iload_n 1, 0, 0, 0, 0, 0), (.iconst (-1), 0, 0, 0, (-1), 0), (.iastore, 0, 0, 0, 0, 0), (.iinc 1 1, 0, 0, 0, 1, 0)] (by decide +kernel) rfl rfl ⟨trivial, rfl, trivial, trivial, ⟨_, rfl, vp_in_iff.mpr b3⟩, trivial, rfl, trivial, trivial, ⟨_, rfl, vp_in_iff.mpr b3⟩, trivial, trivial⟩ ?_
    refine q_goto (off := -24) (tgt := 35) (by decide +kernel) (by decide) ?_
    cases h
    refine q_pick [1, 0] rfl ?_
    exact k0 rfl
def T_X3_prepare_96 (z : q_Z) (l1 : Int32) : Option ((Int32 × q_Z) × Nat) :=
  some ((l1 + 1, z), 0)
set_option maxRecDepth 100000 in
set_option maxHeartbeats 4000000 in
theorem t_X3_prepare_96 {z : q_Z} {l1 : Int32} {s2 : Int32 × q_Z} {t : Nat} {r : Option Value} {h2 : q_H} (h : T_X3_prepare_96 z l1 = some (s2, t)) (k0 : t = 0 → q_Ex none 25 64 [(0, .ref 2), (1, .int s2.1)] [] (q_K0, s2.2.1, s2.2.2, q_R0) r h2) (k1 : t = 1 → q_Ex none 25 102 [(0, .ref 2), (1, .int s2.1)] [] (q_K0, s2.2.1, s2.2.2, q_R0) r h2) : q_Ex none 25 96 [(0, .ref 2), (1, .int l1)] [] (q_K0, z.1, z.2, q_R0) r h2 := by
  unfold T_X3_prepare_96 at h
  refine q_blk2 (pc2 := 99) (ls2 := [(1, .int (l1 + 1)), (0, .ref 2)]) (st2 := []) (h2 := (q_K0, z.1, z.2, q_R0)) [(.iinc 1 1, 0, 0, 0, 1, 0)] (by decide +kernel) rfl rfl ⟨trivial, trivial⟩ ?_
  refine q_goto (off := -35) (tgt := 64) (by decide +kernel) (by decide) ?_
  cases h
  refine q_pick [1, 0] rfl ?_
  exact k0 rfl
def B_X3_prepare_64 : Int32 × q_Z → Option ((Int32 × q_Z) × Nat) := fun (l1, z) =>
  if (128 : Int32) ≤ l1 then
    some ((l1, z), 1)
  else
    if (z.1 3 10) ≤ l1 then
      some ((l1, z), 1)
    else
      if 0 ≤ Int32.toInt l1 ∧ Int32.toInt l1 < 128 then
        if (z.1 13 (Int32.toNatClampNeg l1)) = (0 : Int32) then
          (F_X3_orderChain z l1).bind fun (_, z8) =>
            T_X3_prepare_96 z8 l1
        else
          T_X3_prepare_96 z l1
      else none
set_option maxRecDepth 100000 in
set_option maxHeartbeats 4000000 in
theorem b_X3_prepare_64 {s s2 : Int32 × q_Z} {t : Nat} {r : Option Value} {h2 : q_H} (h : B_X3_prepare_64 s = some (s2, t)) (k0 : t = 0 → q_Ex none 25 64 [(0, .ref 2), (1, .int s2.1)] [] (q_K0, s2.2.1, s2.2.2, q_R0) r h2) (k1 : t = 1 → q_Ex none 25 102 [(0, .ref 2), (1, .int s2.1)] [] (q_K0, s2.2.1, s2.2.2, q_R0) r h2) : q_Ex none 25 64 [(0, .ref 2), (1, .int s.1)] [] (q_K0, s.2.1, s.2.2, q_R0) r h2 := by
  unfold B_X3_prepare_64 at h
  obtain ⟨l1, z⟩ := s
  dsimp only at h
  show q_Ex none 25 64 [(0, .ref 2), (1, .int l1)] [] (q_K0, z.1, z.2, q_R0) r h2
  refine q_blk2 (pc2 := 68) (ls2 := [(0, .ref 2), (1, .int l1)]) (st2 := [.int 128, .int l1]) (h2 := (q_K0, z.1, z.2, q_R0)) [(.iload_n 1, 0, 0, 0, 0, 0), (.sipush 128, 0, 0, 0, 128, 0)] (by decide +kernel) rfl rfl ⟨trivial, trivial, trivial⟩ ?_
  refine q_ic_ge (off := 34) (tgt := 102) (by decide +kernel) (by decide) (fun c68_1 => ?_) (fun c68_1 => ?_)
  · rw [if_pos c68_1] at h
    cases h
    refine q_pick [0, 1] rfl ?_
    exact k1 rfl
  · rw [if_neg c68_1] at h
    refine q_blk2 (pc2 := 79) (ls2 := [(0, .ref 2), (1, .int l1)]) (st2 := [.int (z.1 3 10), .int l1]) (h2 := (q_K0, z.1, z.2, q_R0)) [(.iload_n 1, 0, 0, 0, 0, 0), (.aload_n 0, 0, 0, 0, 0, 0), (.getfield 12, 0, 3, 0, 0, 0), (.getfield 39, 0, 0, 10, 0, 0)] (by decide +kernel) rfl rfl ⟨trivial, trivial, rfl, rfl, trivial⟩ ?_
    refine q_ic_ge (off := 23) (tgt := 102) (by decide +kernel) (by decide) (fun c79_2 => ?_) (fun c79_2 => ?_)
    · rw [if_pos c79_2] at h
      cases h
      refine q_pick [0, 1] rfl ?_
      exact k1 rfl
    · rw [if_neg c79_2] at h
      have b6 : 0 ≤ Int32.toInt l1 ∧ Int32.toInt l1 < 128 := by
        by_cases q : 0 ≤ Int32.toInt l1 ∧ Int32.toInt l1 < 128
        · exact q
        · rw [if_neg q] at h; cases h
      rw [if_pos b6] at h
      refine q_blk2 (pc2 := 88) (ls2 := [(0, .ref 2), (1, .int l1)]) (st2 := [.int (z.1 13 (Int32.toNatClampNeg l1))]) (h2 := (q_K0, z.1, z.2, q_R0)) [(.aload_n 0, 0, 0, 0, 0, 0), (.getfield 18, 0, 3, 1, 0, 0), (.iload_n 1, 0, 0, 0, 0, 0), (.iaload, 0, 0, 0, 0, 0)] (by decide +kernel) rfl rfl ⟨trivial, rfl, trivial, ⟨_, rfl, vp_in_iff.mpr b6⟩, trivial⟩ ?_
      refine q_if_ne (off := 8) (tgt := 96) (by decide +kernel) (by decide) (fun c88_3 => ?_) (fun c88_3 => ?_)
      · rw [if_neg c88_3] at h
        refine q_pick [0, 1] rfl ?_
        exact t_X3_prepare_96 h k0 k1
      · rw [if_pos c88_3] at h
        refine q_blk2 (pc2 := 93) (ls2 := [(0, .ref 2), (1, .int l1)]) (st2 := [.int l1, .ref 2]) (h2 := (q_K0, z.1, z.2, q_R0)) [(.aload_n 0, 0, 0, 0, 0, 0), (.iload_n 1, 0, 0, 0, 0, 0)] (by decide +kernel) rfl rfl ⟨trivial, trivial, trivial⟩ ?_
        obtain ⟨⟨_, z8⟩, hc9, h⟩ := Option.bind_eq_some_iff.mp h
        dsimp only at h
        refine q_cV0 (idx := 42) (h1 := (q_K0, z8.1, z8.2, q_R0)) [.int l1, .ref 2] 26 2 3 [.int l1] [] rfl (by decide +kernel) (by decide +kernel) rfl (Nat.le_of_ble_eq_true rfl) rfl (by decide) (by decide +kernel) (by decide +kernel) (s_X3_orderChain hc9) ?_
        refine q_pick [0, 1] rfl ?_
        exact t_X3_prepare_96 h k0 k1
def T_X3_prepare_102 (z : q_Z) : Option (Unit × q_Z) :=
  (F_X3_findRings z).bind fun (_, z13) =>
    (F_X3_listSquares z13).bind fun (r14, z15) =>
      (F_X3_numberGenera z15 r14).bind fun (_, z17) =>
        some ((), z17)
set_option maxRecDepth 100000 in
set_option maxHeartbeats 4000000 in
theorem t_X3_prepare_102 {z zR : q_Z} {rv : Unit} (h : T_X3_prepare_102 z = some (rv, zR)) : q_Ex none 25 102 [(0, .ref 2)] [] (q_K0, z.1, z.2, q_R0) none (q_K0, zR.1, zR.2, q_R0) := by
  unfold T_X3_prepare_102 at h
  refine q_blk2 (pc2 := 103) (ls2 := [(0, .ref 2)]) (st2 := [.ref 2]) (h2 := (q_K0, z.1, z.2, q_R0)) [(.aload_n 0, 0, 0, 0, 0, 0)] (by decide +kernel) rfl rfl ⟨trivial, trivial⟩ ?_
  obtain ⟨⟨_, z13⟩, hc18, h⟩ := Option.bind_eq_some_iff.mp h
  dsimp only at h
  refine q_cV0 (idx := 46) (h1 := (q_K0, z13.1, z13.2, q_R0)) [.ref 2] 27 2 3 [] [] rfl (by decide +kernel) (by decide +kernel) rfl (Nat.le_of_ble_eq_true rfl) rfl (by decide) (by decide +kernel) (by decide +kernel) (s_X3_findRings hc18) ?_
  refine q_blk2 (pc2 := 108) (ls2 := [(0, .ref 2)]) (st2 := [.ref 2, .ref 2]) (h2 := (q_K0, z13.1, z13.2, q_R0)) [(.aload_n 0, 0, 0, 0, 0, 0), (.aload_n 0, 0, 0, 0, 0, 0)] (by decide +kernel) rfl rfl ⟨trivial, trivial, trivial⟩ ?_
  obtain ⟨⟨r14, z15⟩, hc19, h⟩ := Option.bind_eq_some_iff.mp h
  dsimp only at h
  refine q_cV1 (idx := 49) (v := .int r14) (h1 := (q_K0, z15.1, z15.2, q_R0)) [.ref 2, .ref 2] 31 2 3 [] [.ref 2] rfl (by decide +kernel) (by decide +kernel) rfl (Nat.le_of_ble_eq_true rfl) rfl (by decide) (by decide +kernel) (by decide +kernel) (s_X3_listSquares hc19) ?_
  obtain ⟨⟨_, z17⟩, hc20, h⟩ := Option.bind_eq_some_iff.mp h
  dsimp only at h
  refine q_cV0 (idx := 53) (h1 := (q_K0, z17.1, z17.2, q_R0)) [.int r14, .ref 2] 30 2 3 [.int r14] [] rfl (by decide +kernel) (by decide +kernel) rfl (Nat.le_of_ble_eq_true rfl) rfl (by decide) (by decide +kernel) (by decide +kernel) (s_X3_numberGenera hc20) ?_
  cases h
  exact q_vret rfl (by decide +kernel)
/-- RootForms$GroupTable.prepare()V -/
def F_X3_prepare (z : q_Z) : Option (Unit × q_Z) :=
  (F_X0_prepare z).bind fun (_, z2) =>
    if (z2.1 2 7) = (z2.1 3 11) then
      some ((), z2)
    else
      (q_lp (B_X3_prepare_35) q_fu (0, (q_u2 z2.1 2 7 (z2.1 3 11), z2.2))).bind fun ((w5, z4), tg) =>
        if tg = 0 then
          (q_lp (B_X3_prepare_64) q_fu (0, z4)).bind fun ((w11, z10), tg) =>
            if tg = 0 then
              T_X3_prepare_102 z10
            else none
        else none
set_option maxRecDepth 100000 in
set_option maxHeartbeats 4000000 in
theorem s_X3_prepare {z zR : q_Z} {rv : Unit} (h : F_X3_prepare z = some (rv, zR)) : q_Ca 25 [.ref 2] (q_K0, z.1, z.2, q_R0) none (q_K0, zR.1, zR.2, q_R0) := by
  refine q_Ca_of (by decide) (Nat.le_of_ble_eq_true rfl) ?_
  show q_Ex none 25 0 [(0, .ref 2)] [] (q_K0, z.1, z.2, q_R0) _ _
  unfold F_X3_prepare at h
  refine q_blk2 (pc2 := 4) (ls2 := [(0, .ref 2)]) (st2 := [.ref 3]) (h2 := (q_K0, z.1, z.2, q_R0)) [(.aload_n 0, 0, 0, 0, 0, 0), (.getfield 12, 0, 3, 0, 0, 0)] (by decide +kernel) rfl rfl ⟨trivial, rfl, trivial⟩ ?_
  obtain ⟨⟨_, z2⟩, hc21, h⟩ := Option.bind_eq_some_iff.mp h
  dsimp only at h
  refine q_cV0 (idx := 31) (h1 := (q_K0, z2.1, z2.2, q_R0)) [.ref 3] 2 3 0 [] [] rfl (by decide +kernel) (by decide +kernel) rfl (Nat.le_of_ble_eq_true rfl) rfl (by decide) (by decide +kernel) (by decide +kernel) (s_X0_prepare hc21) ?_
  refine q_blk2 (pc2 := 18) (ls2 := [(0, .ref 2)]) (st2 := [.int (z2.1 3 11), .int (z2.1 2 7)]) (h2 := (q_K0, z2.1, z2.2, q_R0)) [(.aload_n 0, 0, 0, 0, 0, 0), (.getfield 34, 0, 3, 7, 0, 0), (.aload_n 0, 0, 0, 0, 0, 0), (.getfield 12, 0, 3, 0, 0, 0), (.getfield 38, 0, 0, 11, 0, 0)] (by decide +kernel) rfl rfl ⟨trivial, rfl, trivial, rfl, rfl, trivial⟩ ?_
  refine q_ic_ne (off := 4) (tgt := 22) (by decide +kernel) (by decide) (fun c18_1 => ?_) (fun c18_1 => ?_)
  · rw [if_neg c18_1] at h
    refine q_blk2 (pc2 := 35) (ls2 := [(1, .int 0), (0, .ref 2)]) (st2 := []) (h2 := (q_K0, q_u2 z2.1 2 7 (z2.1 3 11), z2.2, q_R0)) [(.aload_n 0, 0, 0, 0, 0, 0), (.aload_n 0, 0, 0, 0, 0, 0), (.getfield 12, 0, 3, 0, 0, 0), (.getfield 38, 0, 0, 11, 0, 0), (.putfield 34, 0, 3, 7, 0, 0), (.iconst 0, 0, 0, 0, 0, 0), (.istore_n 1, 0, 0, 0, 0, 0)] (by decide +kernel) rfl rfl ⟨trivial, trivial, rfl, rfl, ⟨rfl, rfl, rfl⟩, trivial, trivial, trivial⟩ ?_
    obtain ⟨⟨⟨w5, z4⟩, tg23⟩, hl22, h⟩ := Option.bind_eq_some_iff.mp h
    dsimp only at h
    refine q_pick [1, 0] rfl ?_
    refine q_lp_ok (P := fun s => q_Ex _ 25 35 [(0, .ref 2), (1, .int s.1)] [] (q_K0, s.2.1, s.2.2, q_R0) _ _) (X := fun u s => (u = 0 → q_Ex _ 25 62 [(0, .ref 2), (1, .int s.1)] [] (q_K0, s.2.1, s.2.2, q_R0) _ _)) (fun s s2 t hh k0 kx => b_X3_prepare_35 hh k0 (fun e => (kx 0 e) rfl)) hl22 ?_
    · intro e_tg23
      subst e_tg23
      rw [if_pos rfl] at h
      show q_Ex _ 25 62 [(0, .ref 2), (1, .int w5)] [] (q_K0, z4.1, z4.2, q_R0) _ _
      refine q_blk2 (pc2 := 64) (ls2 := [(1, .int 0), (0, .ref 2)]) (st2 := []) (h2 := (q_K0, z4.1, z4.2, q_R0)) [(.iconst 0, 0, 0, 0, 0, 0), (.istore_n 1, 0, 0, 0, 0, 0)] (by decide +kernel) rfl rfl ⟨trivial, trivial, trivial⟩ ?_
      obtain ⟨⟨⟨w11, z10⟩, tg25⟩, hl24, h⟩ := Option.bind_eq_some_iff.mp h
      dsimp only at h
      refine q_pick [1, 0] rfl ?_
      refine q_lp_ok (P := fun s => q_Ex _ 25 64 [(0, .ref 2), (1, .int s.1)] [] (q_K0, s.2.1, s.2.2, q_R0) _ _) (X := fun u s => (u = 0 → q_Ex _ 25 102 [(0, .ref 2), (1, .int s.1)] [] (q_K0, s.2.1, s.2.2, q_R0) _ _)) (fun s s2 t hh k0 kx => b_X3_prepare_64 hh k0 (fun e => (kx 0 e) rfl)) hl24 ?_
      · intro e_tg25
        subst e_tg25
        rw [if_pos rfl] at h
        show q_Ex _ 25 102 [(0, .ref 2), (1, .int w11)] [] (q_K0, z10.1, z10.2, q_R0) _ _
        refine q_pick [0] rfl ?_
        exact t_X3_prepare_102 h
  · rw [if_pos c18_1] at h
    cases h
    exact q_vret rfl (by decide +kernel)
