/-! pure functions of the methods, and that the methods do what they say (written by wip/whole/dec.py) -/
def T_X10_quotient_26 (z : q_Z) : Option (Int32 × q_Z) :=
  (F_X10_no z 1).bind fun (r3, z4) =>
    some (r3, z4)
set_option maxRecDepth 100000 in
set_option maxHeartbeats 4000000 in
theorem t_X10_quotient_26 {z zR : q_Z} {rv : Int32} (h : T_X10_quotient_26 z = some (rv, zR)) : q_Ex none 148 26 [(0, .ref 128)] [] (q_K0, z.1, z.2, q_R0) (some (.int rv)) (q_K0, zR.1, zR.2, q_R0) := by
  unfold T_X10_quotient_26 at h
  refine q_blk2 (pc2 := 28) (ls2 := [(0, .ref 128)]) (st2 := [.int 1, .ref 128]) (h2 := (q_K0, z.1, z.2, q_R0)) [(.aload_n 0, 0, 0, 0, 0, 0), (.iconst 1, 0, 0, 0, 1, 0)] (by decide +kernel) rfl rfl ⟨trivial, trivial, trivial⟩ ?_
  obtain ⟨⟨r3, z4⟩, hc5, h⟩ := Option.bind_eq_some_iff.mp h
  dsimp only at h
  refine q_cV1 (idx := 152) (v := .int r3) (h1 := (q_K0, z4.1, z4.2, q_R0)) [.int 1, .ref 128] 98 128 9 [.int 1] [] rfl (by decide +kernel) (by decide +kernel) rfl (Nat.le_of_ble_eq_true rfl) rfl (by decide) (by decide +kernel) (by decide +kernel) (s_X10_no hc5) ?_
  cases h
  exact q_iret .int rfl rfl (by decide +kernel)
def B_X10_quotient_47 : Int32 × Int32 × q_Z → Option ((Int32 × Int32 × q_Z) × Nat) := fun (l2, l3, z) =>
  if l2 < l3 then
    some ((l2, l3, z), 1)
  else
    (F_X10_goes z).bind fun (_, z11) =>
      some ((l2, l3 + 1, z11), 0)
set_option maxRecDepth 100000 in
set_option maxHeartbeats 4000000 in
theorem b_X10_quotient_47 {s s2 : Int32 × Int32 × q_Z} {t : Nat} {r : Option Value} {h2 : q_H} (h : B_X10_quotient_47 s = some (s2, t)) (k0 : t = 0 → q_Ex none 148 47 [(0, .ref 128), (2, .int s2.1), (3, .int s2.2.1)] [] (q_K0, s2.2.2.1, s2.2.2.2, q_R0) r h2) (k1 : t = 1 → q_Ex none 148 62 [(0, .ref 128), (2, .int s2.1), (3, .int s2.2.1)] [] (q_K0, s2.2.2.1, s2.2.2.2, q_R0) r h2) : q_Ex none 148 47 [(0, .ref 128), (2, .int s.1), (3, .int s.2.1)] [] (q_K0, s.2.2.1, s.2.2.2, q_R0) r h2 := by
  unfold B_X10_quotient_47 at h
  obtain ⟨l2, l3, z⟩ := s
  dsimp only at h
  show q_Ex none 148 47 [(0, .ref 128), (2, .int l2), (3, .int l3)] [] (q_K0, z.1, z.2, q_R0) r h2
  refine q_blk2 (pc2 := 49) (ls2 := [(0, .ref 128), (2, .int l2), (3, .int l3)]) (st2 := [.int l2, .int l3]) (h2 := (q_K0, z.1, z.2, q_R0)) [(.iload_n 3, 0, 0, 0, 0, 0), (.iload_n 2, 0, 0, 0, 0, 0)] (by decide +kernel) rfl rfl ⟨trivial, trivial, trivial⟩ ?_
  refine q_ic_gt (off := 13) (tgt := 62) (by decide +kernel) (by decide) (fun c49_1 => ?_) (fun c49_1 => ?_)
  · rw [if_pos c49_1] at h
    cases h
    refine q_pick [0, 1, 2] rfl ?_
    exact k1 rfl
  · rw [if_neg c49_1] at h
    refine q_blk2 (pc2 := 53) (ls2 := [(0, .ref 128), (2, .int l2), (3, .int l3)]) (st2 := [.ref 128]) (h2 := (q_K0, z.1, z.2, q_R0)) [(.aload_n 0, 0, 0, 0, 0, 0)] (by decide +kernel) rfl rfl ⟨trivial, trivial⟩ ?_
    obtain ⟨⟨_, z11⟩, hc12, h⟩ := Option.bind_eq_some_iff.mp h
    dsimp only at h
    refine q_cV0 (idx := 252) (h1 := (q_K0, z11.1, z11.2, q_R0)) [.ref 128] 144 128 9 [] [] rfl (by decide +kernel) (by decide +kernel) rfl (Nat.le_of_ble_eq_true rfl) rfl (by decide) (by decide +kernel) (by decide +kernel) (s_X10_goes hc12) ?_
    refine q_blk2 (pc2 := 59) (ls2 := [(3, .int (l3 + 1)), (0, .ref 128), (2, .int l2)]) (st2 := []) (h2 := (q_K0, z11.1, z11.2, q_R0)) [(.iinc 3 1, 0, 0, 0, 1, 0)] (by decide +kernel) rfl rfl ⟨trivial, trivial⟩ ?_
    refine q_goto (off := -12) (tgt := 47) (by decide +kernel) (by decide) ?_
    cases h
    refine q_pick [1, 2, 0] rfl ?_
    exact k0 rfl
/-- RootFormsModel.quotient(II)I -/
def F_X10_quotient (z : q_Z) (l1 : Int32) (l2 : Int32) : Option (Int32 × q_Z) :=
  (F_X10_isRooted (q_u2 z.1 128 3 0, z.2) l1).bind fun (r1, z2) =>
    if r1 = (0 : Int32) then
      T_X10_quotient_26 z2
    else
      (F_X10_in z2 (Int32.toInt64 l2) 0 1000).bind fun (r6, z7) =>
        if r6 = (0 : Int32) then
          T_X10_quotient_26 z7
        else
          (F_X10_begin (q_u2 z7.1 128 2 0, z7.2) (Int32.toInt64 l1) 0 1).bind fun (_, z9) =>
            (q_lp (B_X10_quotient_47) q_fu (l2, 0, z9)).bind fun ((w14, w15, z13), tg) =>
              if tg = 0 then
                some (Int64.toInt32 (z13.2 128 38), z13)
              else none
set_option maxRecDepth 100000 in
set_option maxHeartbeats 4000000 in
theorem s_X10_quotient {z zR : q_Z} {l1 : Int32} {l2 : Int32} {rv : Int32} (h : F_X10_quotient z l1 l2 = some (rv, zR)) : q_Ca 148 [.ref 128, .int l1, .int l2] (q_K0, z.1, z.2, q_R0) (some (.int rv)) (q_K0, zR.1, zR.2, q_R0) := by
  refine q_Ca_of (by decide) (Nat.le_of_ble_eq_true rfl) ?_
  show q_Ex none 148 0 [(0, .ref 128), (1, .int l1), (2, .int l2)] [] (q_K0, z.1, z.2, q_R0) _ _
  unfold F_X10_quotient at h
  refine q_blk2 (pc2 := 7) (ls2 := [(0, .ref 128), (1, .int l1), (2, .int l2)]) (st2 := [.int l1, .ref 128]) (h2 := (q_K0, q_u2 z.1 128 3 0, z.2, q_R0)) [(.aload_n 0, 0, 0, 0, 0, 0), (.iconst 0, 0, 0, 0, 0, 0), (.putfield 57, 0, 9, 3, 0, 0), (.aload_n 0, 0, 0, 0, 0, 0), (.iload_n 1, 0, 0, 0, 0, 0)] (by decide +kernel) rfl rfl ⟨trivial, trivial, ⟨rfl, rfl, rfl⟩, trivial, trivial, trivial⟩ ?_
  obtain ⟨⟨r1, z2⟩, hc16, h⟩ := Option.bind_eq_some_iff.mp h
  dsimp only at h
  refine q_cV1 (idx := 259) (v := .int r1) (h1 := (q_K0, z2.1, z2.2, q_R0)) [.int l1, .ref 128] 146 128 9 [.int l1] [] rfl (by decide +kernel) (by decide +kernel) rfl (Nat.le_of_ble_eq_true rfl) rfl (by decide) (by decide +kernel) (by decide +kernel) (s_X10_isRooted hc16) ?_
  refine q_if_eq (off := 16) (tgt := 26) (by decide +kernel) (by decide) (fun c10_1 => ?_) (fun c10_1 => ?_)
  · rw [if_pos c10_1] at h
    refine q_pick [0] rfl ?_
    exact t_X10_quotient_26 h
  · rw [if_neg c10_1] at h
    refine q_blk2 (pc2 := 20) (ls2 := [(0, .ref 128), (1, .int l1), (2, .int l2)]) (st2 := [.long 1000, .long 0, .long (Int32.toInt64 l2), .ref 128]) (h2 := (q_K0, z2.1, z2.2, q_R0)) [(.aload_n 0, 0, 0, 0, 0, 0), (.iload_n 2, 0, 0, 0, 0, 0), (.i2l, 0, 0, 0, 0, 0), (.lconst 0, 0, 0, 0, 0, 0), (.ldc2_w 262, 0, 0, 0, 0, 1000)] (by decide +kernel) rfl rfl ⟨trivial, trivial, trivial, trivial, trivial, trivial⟩ ?_
    obtain ⟨⟨r6, z7⟩, hc17, h⟩ := Option.bind_eq_some_iff.mp h
    dsimp only at h
    refine q_cV1 (idx := 138) (v := .int r6) (h1 := (q_K0, z7.1, z7.2, q_R0)) [.long 1000, .long 0, .long (Int32.toInt64 l2), .ref 128] 99 128 9 [.long (Int32.toInt64 l2), .long 0, .long 1000] [] rfl (by decide +kernel) (by decide +kernel) rfl (Nat.le_of_ble_eq_true rfl) rfl (by decide) (by decide +kernel) (by decide +kernel) (s_X10_in hc17) ?_
    refine q_if_ne (off := 9) (tgt := 32) (by decide +kernel) (by decide) (fun c23_2 => ?_) (fun c23_2 => ?_)
    · rw [if_neg c23_2] at h
      refine q_blk2 (pc2 := 42) (ls2 := [(0, .ref 128), (1, .int l1), (2, .int l2)]) (st2 := [.long 1, .long 0, .long (Int32.toInt64 l1), .ref 128]) (h2 := (q_K0, q_u2 z7.1 128 2 0, z7.2, q_R0)) [(.aload_n 0, 0, 0, 0, 0, 0), (.iconst 0, 0, 0, 0, 0, 0), (.putfield 61, 0, 9, 2, 0, 0), (.aload_n 0, 0, 0, 0, 0, 0), (.iload_n 1, 0, 0, 0, 0, 0), (.i2l, 0, 0, 0, 0, 0), (.lconst 0, 0, 0, 0, 0, 0), (.lconst 1, 0, 0, 0, 0, 1)] (by decide +kernel) rfl rfl ⟨trivial, trivial, ⟨rfl, rfl, rfl⟩, trivial, trivial, trivial, trivial, trivial, trivial⟩ ?_
      obtain ⟨⟨_, z9⟩, hc18, h⟩ := Option.bind_eq_some_iff.mp h
      dsimp only at h
      refine q_cV0 (idx := 248) (h1 := (q_K0, z9.1, z9.2, q_R0)) [.long 1, .long 0, .long (Int32.toInt64 l1), .ref 128] 143 128 9 [.long (Int32.toInt64 l1), .long 0, .long 1] [] rfl (by decide +kernel) (by decide +kernel) rfl (Nat.le_of_ble_eq_true rfl) rfl (by decide) (by decide +kernel) (by decide +kernel) (s_X10_begin hc18) ?_
      refine q_blk2 (pc2 := 47) (ls2 := [(3, .int 0), (0, .ref 128), (1, .int l1), (2, .int l2)]) (st2 := []) (h2 := (q_K0, z9.1, z9.2, q_R0)) [(.iconst 0, 0, 0, 0, 0, 0), (.istore_n 3, 0, 0, 0, 0, 0)] (by decide +kernel) rfl rfl ⟨trivial, trivial, trivial⟩ ?_
      obtain ⟨⟨⟨w14, w15, z13⟩, tg20⟩, hl19, h⟩ := Option.bind_eq_some_iff.mp h
      dsimp only at h
      refine q_pick [1, 3, 0] rfl ?_
      refine q_lp_ok (P := fun s => q_Ex _ 148 47 [(0, .ref 128), (2, .int s.1), (3, .int s.2.1)] [] (q_K0, s.2.2.1, s.2.2.2, q_R0) _ _) (X := fun u s => (u = 0 → q_Ex _ 148 62 [(0, .ref 128), (2, .int s.1), (3, .int s.2.1)] [] (q_K0, s.2.2.1, s.2.2.2, q_R0) _ _)) (fun s s2 t hh k0 kx => b_X10_quotient_47 hh k0 (fun e => (kx 0 e) rfl)) hl19 ?_
      · intro e_tg20
        subst e_tg20
        rw [if_pos rfl] at h
        show q_Ex _ 148 62 [(0, .ref 128), (2, .int w14), (3, .int w15)] [] (q_K0, z13.1, z13.2, q_R0) _ _
        refine q_blk2 (pc2 := 67) (ls2 := [(0, .ref 128), (2, .int w14), (3, .int w15)]) (st2 := [.int (Int64.toInt32 (z13.2 128 38))]) (h2 := (q_K0, z13.1, z13.2, q_R0)) [(.aload_n 0, 0, 0, 0, 0, 0), (.getfield 243, 0, 9, 38, 0, 0), (.l2i, 0, 0, 0, 0, 0)] (by decide +kernel) rfl rfl ⟨trivial, rfl, trivial, trivial⟩ ?_
        cases h
        exact q_iret .int rfl rfl (by decide +kernel)
    · rw [if_pos c23_2] at h
      refine q_pick [0] rfl ?_
      exact t_X10_quotient_26 h
def T_X10_near_26 (z : q_Z) : Option (Int64 × q_Z) :=
  (F_X10_no z 1).bind fun (r3, z4) =>
    some (Int32.toInt64 r3, z4)
set_option maxRecDepth 100000 in
set_option maxHeartbeats 4000000 in
theorem t_X10_near_26 {z zR : q_Z} {rv : Int64} (h : T_X10_near_26 z = some (rv, zR)) : q_Ex none 149 26 [(0, .ref 128)] [] (q_K0, z.1, z.2, q_R0) (some (.long rv)) (q_K0, zR.1, zR.2, q_R0) := by
  unfold T_X10_near_26 at h
  refine q_blk2 (pc2 := 28) (ls2 := [(0, .ref 128)]) (st2 := [.int 1, .ref 128]) (h2 := (q_K0, z.1, z.2, q_R0)) [(.aload_n 0, 0, 0, 0, 0, 0), (.iconst 1, 0, 0, 0, 1, 0)] (by decide +kernel) rfl rfl ⟨trivial, trivial, trivial⟩ ?_
  obtain ⟨⟨r3, z4⟩, hc5, h⟩ := Option.bind_eq_some_iff.mp h
  dsimp only at h
  refine q_cV1 (idx := 152) (v := .int r3) (h1 := (q_K0, z4.1, z4.2, q_R0)) [.int 1, .ref 128] 98 128 9 [.int 1] [] rfl (by decide +kernel) (by decide +kernel) rfl (Nat.le_of_ble_eq_true rfl) rfl (by decide) (by decide +kernel) (by decide +kernel) (s_X10_no hc5) ?_
  refine q_blk2 (pc2 := 32) (ls2 := [(0, .ref 128)]) (st2 := [.long (Int32.toInt64 r3)]) (h2 := (q_K0, z4.1, z4.2, q_R0)) [(.i2l, 0, 0, 0, 0, 0)] (by decide +kernel) rfl rfl ⟨trivial, trivial⟩ ?_
  cases h
  exact q_lret rfl (by decide +kernel)
def B_X10_near_44 : Int32 × Int32 × Int32 × q_Z → Option ((Int32 × Int32 × Int32 × q_Z) × Nat) := fun (l2, l3, l4, z) =>
  if l2 < l4 then
    some ((l2, l3, l4, z), 1)
  else
    (F_X10_goes z).bind fun (_, z11) =>
      some ((l2, l3, l4 + 1, z11), 0)
set_option maxRecDepth 100000 in
set_option maxHeartbeats 4000000 in
theorem b_X10_near_44 {s s2 : Int32 × Int32 × Int32 × q_Z} {t : Nat} {r : Option Value} {h2 : q_H} (h : B_X10_near_44 s = some (s2, t)) (k0 : t = 0 → q_Ex none 149 44 [(0, .ref 128), (2, .int s2.1), (3, .int s2.2.1), (4, .int s2.2.2.1)] [] (q_K0, s2.2.2.2.1, s2.2.2.2.2, q_R0) r h2) (k1 : t = 1 → q_Ex none 149 60 [(0, .ref 128), (2, .int s2.1), (3, .int s2.2.1), (4, .int s2.2.2.1)] [] (q_K0, s2.2.2.2.1, s2.2.2.2.2, q_R0) r h2) : q_Ex none 149 44 [(0, .ref 128), (2, .int s.1), (3, .int s.2.1), (4, .int s.2.2.1)] [] (q_K0, s.2.2.2.1, s.2.2.2.2, q_R0) r h2 := by
  unfold B_X10_near_44 at h
  obtain ⟨l2, l3, l4, z⟩ := s
  dsimp only at h
  show q_Ex none 149 44 [(0, .ref 128), (2, .int l2), (3, .int l3), (4, .int l4)] [] (q_K0, z.1, z.2, q_R0) r h2
  refine q_blk2 (pc2 := 47) (ls2 := [(0, .ref 128), (2, .int l2), (3, .int l3), (4, .int l4)]) (st2 := [.int l2, .int l4]) (h2 := (q_K0, z.1, z.2, q_R0)) [(.iload 4, 0, 0, 0, 0, 0), (.iload_n 2, 0, 0, 0, 0, 0)] (by decide +kernel) rfl rfl ⟨trivial, trivial, trivial⟩ ?_
  refine q_ic_gt (off := 13) (tgt := 60) (by decide +kernel) (by decide) (fun c47_1 => ?_) (fun c47_1 => ?_)
  · rw [if_pos c47_1] at h
    cases h
    refine q_pick [0, 1, 2, 3] rfl ?_
    exact k1 rfl
  · rw [if_neg c47_1] at h
    refine q_blk2 (pc2 := 51) (ls2 := [(0, .ref 128), (2, .int l2), (3, .int l3), (4, .int l4)]) (st2 := [.ref 128]) (h2 := (q_K0, z.1, z.2, q_R0)) [(.aload_n 0, 0, 0, 0, 0, 0)] (by decide +kernel) rfl rfl ⟨trivial, trivial⟩ ?_
    obtain ⟨⟨_, z11⟩, hc12, h⟩ := Option.bind_eq_some_iff.mp h
    dsimp only at h
    refine q_cV0 (idx := 252) (h1 := (q_K0, z11.1, z11.2, q_R0)) [.ref 128] 144 128 9 [] [] rfl (by decide +kernel) (by decide +kernel) rfl (Nat.le_of_ble_eq_true rfl) rfl (by decide) (by decide +kernel) (by decide +kernel) (s_X10_goes hc12) ?_
    refine q_blk2 (pc2 := 57) (ls2 := [(4, .int (l4 + 1)), (0, .ref 128), (2, .int l2), (3, .int l3)]) (st2 := []) (h2 := (q_K0, z11.1, z11.2, q_R0)) [(.iinc 4 1, 0, 0, 0, 1, 0)] (by decide +kernel) rfl rfl ⟨trivial, trivial⟩ ?_
    refine q_goto (off := -13) (tgt := 44) (by decide +kernel) (by decide) ?_
    cases h
    refine q_pick [1, 2, 3, 0] rfl ?_
    exact k0 rfl
/-- RootFormsModel.near(IIZ)J -/
def F_X10_near (z : q_Z) (l1 : Int32) (l2 : Int32) (l3 : Int32) : Option (Int64 × q_Z) :=
  (F_X10_isRooted (q_u2 z.1 128 3 0, z.2) l1).bind fun (r1, z2) =>
    if r1 = (0 : Int32) then
      T_X10_near_26 z2
    else
      (F_X10_in z2 (Int32.toInt64 l2) 0 1000).bind fun (r6, z7) =>
        if r6 = (0 : Int32) then
          T_X10_near_26 z7
        else
          (F_X10_begin z7 (Int32.toInt64 l1) 0 1).bind fun (_, z9) =>
            (q_lp (B_X10_near_44) q_fu (l2, l3, 0, z9)).bind fun ((w14, w15, w16, z13), tg) =>
              if tg = 0 then
                if (z13.1 128 43) = (0 : Int32) then
                  if w15 = (0 : Int32) then
                    some (z13.2 128 39, (q_u2 z13.1 128 2 0, z13.2))
                  else
                    some (z13.2 128 40, (q_u2 z13.1 128 2 0, z13.2))
                else
                  (F_X10_no z13 6).bind fun (r17, z18) =>
                    some (Int32.toInt64 r17, z18)
              else none
set_option maxRecDepth 100000 in
set_option maxHeartbeats 4000000 in
theorem s_X10_near {z zR : q_Z} {l1 : Int32} {l2 : Int32} {l3 : Int32} {rv : Int64} (h : F_X10_near z l1 l2 l3 = some (rv, zR)) : q_Ca 149 [.ref 128, .int l1, .int l2, .int l3] (q_K0, z.1, z.2, q_R0) (some (.long rv)) (q_K0, zR.1, zR.2, q_R0) := by
  refine q_Ca_of (by decide) (Nat.le_of_ble_eq_true rfl) ?_
  show q_Ex none 149 0 [(0, .ref 128), (1, .int l1), (2, .int l2), (3, .int l3)] [] (q_K0, z.1, z.2, q_R0) _ _
  unfold F_X10_near at h
  refine q_blk2 (pc2 := 7) (ls2 := [(0, .ref 128), (1, .int l1), (2, .int l2), (3, .int l3)]) (st2 := [.int l1, .ref 128]) (h2 := (q_K0, q_u2 z.1 128 3 0, z.2, q_R0)) [(.aload_n 0, 0, 0, 0, 0, 0), (.iconst 0, 0, 0, 0, 0, 0), (.putfield 57, 0, 9, 3, 0, 0), (.aload_n 0, 0, 0, 0, 0, 0), (.iload_n 1, 0, 0, 0, 0, 0)] (by decide +kernel) rfl rfl ⟨trivial, trivial, ⟨rfl, rfl, rfl⟩, trivial, trivial, trivial⟩ ?_
  obtain ⟨⟨r1, z2⟩, hc19, h⟩ := Option.bind_eq_some_iff.mp h
  dsimp only at h
  refine q_cV1 (idx := 259) (v := .int r1) (h1 := (q_K0, z2.1, z2.2, q_R0)) [.int l1, .ref 128] 146 128 9 [.int l1] [] rfl (by decide +kernel) (by decide +kernel) rfl (Nat.le_of_ble_eq_true rfl) rfl (by decide) (by decide +kernel) (by decide +kernel) (s_X10_isRooted hc19) ?_
  refine q_if_eq (off := 16) (tgt := 26) (by decide +kernel) (by decide) (fun c10_1 => ?_) (fun c10_1 => ?_)
  · rw [if_pos c10_1] at h
    refine q_pick [0] rfl ?_
    exact t_X10_near_26 h
  · rw [if_neg c10_1] at h
    refine q_blk2 (pc2 := 20) (ls2 := [(0, .ref 128), (1, .int l1), (2, .int l2), (3, .int l3)]) (st2 := [.long 1000, .long 0, .long (Int32.toInt64 l2), .ref 128]) (h2 := (q_K0, z2.1, z2.2, q_R0)) [(.aload_n 0, 0, 0, 0, 0, 0), (.iload_n 2, 0, 0, 0, 0, 0), (.i2l, 0, 0, 0, 0, 0), (.lconst 0, 0, 0, 0, 0, 0), (.ldc2_w 262, 0, 0, 0, 0, 1000)] (by decide +kernel) rfl rfl ⟨trivial, trivial, trivial, trivial, trivial, trivial⟩ ?_
    obtain ⟨⟨r6, z7⟩, hc20, h⟩ := Option.bind_eq_some_iff.mp h
    dsimp only at h
    refine q_cV1 (idx := 138) (v := .int r6) (h1 := (q_K0, z7.1, z7.2, q_R0)) [.long 1000, .long 0, .long (Int32.toInt64 l2), .ref 128] 99 128 9 [.long (Int32.toInt64 l2), .long 0, .long 1000] [] rfl (by decide +kernel) (by decide +kernel) rfl (Nat.le_of_ble_eq_true rfl) rfl (by decide) (by decide +kernel) (by decide +kernel) (s_X10_in hc20) ?_
    refine q_if_ne (off := 10) (tgt := 33) (by decide +kernel) (by decide) (fun c23_2 => ?_) (fun c23_2 => ?_)
    · rw [if_neg c23_2] at h
      refine q_blk2 (pc2 := 38) (ls2 := [(0, .ref 128), (1, .int l1), (2, .int l2), (3, .int l3)]) (st2 := [.long 1, .long 0, .long (Int32.toInt64 l1), .ref 128]) (h2 := (q_K0, z7.1, z7.2, q_R0)) [(.aload_n 0, 0, 0, 0, 0, 0), (.iload_n 1, 0, 0, 0, 0, 0), (.i2l, 0, 0, 0, 0, 0), (.lconst 0, 0, 0, 0, 0, 0), (.lconst 1, 0, 0, 0, 0, 1)] (by decide +kernel) rfl rfl ⟨trivial, trivial, trivial, trivial, trivial, trivial⟩ ?_
      obtain ⟨⟨_, z9⟩, hc21, h⟩ := Option.bind_eq_some_iff.mp h
      dsimp only at h
      refine q_cV0 (idx := 248) (h1 := (q_K0, z9.1, z9.2, q_R0)) [.long 1, .long 0, .long (Int32.toInt64 l1), .ref 128] 143 128 9 [.long (Int32.toInt64 l1), .long 0, .long 1] [] rfl (by decide +kernel) (by decide +kernel) rfl (Nat.le_of_ble_eq_true rfl) rfl (by decide) (by decide +kernel) (by decide +kernel) (s_X10_begin hc21) ?_
      refine q_blk2 (pc2 := 44) (ls2 := [(4, .int 0), (0, .ref 128), (1, .int l1), (2, .int l2), (3, .int l3)]) (st2 := []) (h2 := (q_K0, z9.1, z9.2, q_R0)) [(.iconst 0, 0, 0, 0, 0, 0), (.istore 4, 0, 0, 0, 0, 0)] (by decide +kernel) rfl rfl ⟨trivial, trivial, trivial⟩ ?_
      obtain ⟨⟨⟨w14, w15, w16, z13⟩, tg23⟩, hl22, h⟩ := Option.bind_eq_some_iff.mp h
      dsimp only at h
      refine q_pick [1, 3, 4, 0] rfl ?_
      refine q_lp_ok (P := fun s => q_Ex _ 149 44 [(0, .ref 128), (2, .int s.1), (3, .int s.2.1), (4, .int s.2.2.1)] [] (q_K0, s.2.2.2.1, s.2.2.2.2, q_R0) _ _) (X := fun u s => (u = 0 → q_Ex _ 149 60 [(0, .ref 128), (2, .int s.1), (3, .int s.2.1), (4, .int s.2.2.1)] [] (q_K0, s.2.2.2.1, s.2.2.2.2, q_R0) _ _)) (fun s s2 t hh k0 kx => b_X10_near_44 hh k0 (fun e => (kx 0 e) rfl)) hl22 ?_
      · intro e_tg23
        subst e_tg23
        rw [if_pos rfl] at h
        show q_Ex _ 149 60 [(0, .ref 128), (2, .int w14), (3, .int w15), (4, .int w16)] [] (q_K0, z13.1, z13.2, q_R0) _ _
        refine q_blk2 (pc2 := 64) (ls2 := [(0, .ref 128), (2, .int w14), (3, .int w15), (4, .int w16)]) (st2 := [.int (z13.1 128 43)]) (h2 := (q_K0, z13.1, z13.2, q_R0)) [(.aload_n 0, 0, 0, 0, 0, 0), (.getfield 239, 0, 9, 43, 0, 0)] (by decide +kernel) rfl rfl ⟨trivial, rfl, trivial⟩ ?_
        refine q_if_eq (off := 11) (tgt := 75) (by decide +kernel) (by decide) (fun c64_3 => ?_) (fun c64_3 => ?_)
        · rw [if_pos c64_3] at h
          refine q_blk2 (pc2 := 81) (ls2 := [(0, .ref 128), (2, .int w14), (3, .int w15), (4, .int w16)]) (st2 := [.int w15]) (h2 := (q_K0, q_u2 z13.1 128 2 0, z13.2, q_R0)) [(.aload_n 0, 0, 0, 0, 0, 0), (.iconst 0, 0, 0, 0, 0, 0), (.putfield 61, 0, 9, 2, 0, 0), (.iload_n 3, 0, 0, 0, 0, 0)] (by decide +kernel) rfl rfl ⟨trivial, trivial, ⟨rfl, rfl, rfl⟩, trivial, trivial⟩ ?_
          refine q_if_eq (off := 10) (tgt := 91) (by decide +kernel) (by decide) (fun c81_4 => ?_) (fun c81_4 => ?_)
          · rw [if_pos c81_4] at h
            refine q_blk2 (pc2 := 95) (ls2 := [(0, .ref 128), (2, .int w14), (3, .int w15), (4, .int w16)]) (st2 := [.long (z13.2 128 39)]) (h2 := (q_K0, q_u2 z13.1 128 2 0, z13.2, q_R0)) [(.aload_n 0, 0, 0, 0, 0, 0), (.getfield 227, 0, 9, 39, 0, 0)] (by decide +kernel) rfl rfl ⟨trivial, rfl, trivial⟩ ?_
            cases h
            exact q_lret rfl (by decide +kernel)
          · rw [if_neg c81_4] at h
            refine q_blk2 (pc2 := 88) (ls2 := [(0, .ref 128), (2, .int w14), (3, .int w15), (4, .int w16)]) (st2 := [.long (z13.2 128 40)]) (h2 := (q_K0, q_u2 z13.1 128 2 0, z13.2, q_R0)) [(.aload_n 0, 0, 0, 0, 0, 0), (.getfield 233, 0, 9, 40, 0, 0)] (by decide +kernel) rfl rfl ⟨trivial, rfl, trivial⟩ ?_
            refine q_goto (off := 7) (tgt := 95) (by decide +kernel) (by decide) ?_
            cases h
            exact q_lret rfl (by decide +kernel)
        · rw [if_neg c64_3] at h
          refine q_blk2 (pc2 := 70) (ls2 := [(0, .ref 128), (2, .int w14), (3, .int w15), (4, .int w16)]) (st2 := [.int 6, .ref 128]) (h2 := (q_K0, z13.1, z13.2, q_R0)) [(.aload_n 0, 0, 0, 0, 0, 0), (.bipush 6, 0, 0, 0, 6, 0)] (by decide +kernel) rfl rfl ⟨trivial, trivial, trivial⟩ ?_
          obtain ⟨⟨r17, z18⟩, hc24, h⟩ := Option.bind_eq_some_iff.mp h
          dsimp only at h
          refine q_cV1 (idx := 152) (v := .int r17) (h1 := (q_K0, z18.1, z18.2, q_R0)) [.int 6, .ref 128] 98 128 9 [.int 6] [] rfl (by decide +kernel) (by decide +kernel) rfl (Nat.le_of_ble_eq_true rfl) rfl (by decide) (by decide +kernel) (by decide +kernel) (s_X10_no hc24) ?_
          refine q_blk2 (pc2 := 74) (ls2 := [(0, .ref 128), (2, .int w14), (3, .int w15), (4, .int w16)]) (st2 := [.long (Int32.toInt64 r17)]) (h2 := (q_K0, z18.1, z18.2, q_R0)) [(.i2l, 0, 0, 0, 0, 0)] (by decide +kernel) rfl rfl ⟨trivial, trivial⟩ ?_
          cases h
          exact q_lret rfl (by decide +kernel)
    · rw [if_pos c23_2] at h
      refine q_pick [0] rfl ?_
      exact t_X10_near_26 h
/-- RootFormsModel.put(IJJ)V -/
def F_X10_put (z : q_Z) (l1 : Int32) (l2 : Int64) (l4 : Int64) : Option (Unit × q_Z) :=
  if l1 < (200 : Int32) then
    if 0 ≤ Int32.toInt l1 ∧ Int32.toInt l1 < 200 then
      some ((), (q_u2 (q_u2 z.1 132 (Int32.toNatClampNeg l1) (Int64.toInt32 l2)) 133 (Int32.toNatClampNeg l1) (Int64.toInt32 l4), z.2))
    else none
  else
    some ((), z)
set_option maxRecDepth 100000 in
set_option maxHeartbeats 4000000 in
theorem s_X10_put {z zR : q_Z} {l1 : Int32} {l2 : Int64} {l4 : Int64} {rv : Unit} (h : F_X10_put z l1 l2 l4 = some (rv, zR)) : q_Ca 150 [.ref 128, .int l1, .long l2, .long l4] (q_K0, z.1, z.2, q_R0) none (q_K0, zR.1, zR.2, q_R0) := by
  refine q_Ca_of (by decide) (Nat.le_of_ble_eq_true rfl) ?_
  show q_Ex none 150 0 [(0, .ref 128), (1, .int l1), (2, .long l2), (4, .long l4)] [] (q_K0, z.1, z.2, q_R0) _ _
  unfold F_X10_put at h
  refine q_blk2 (pc2 := 4) (ls2 := [(0, .ref 128), (1, .int l1), (2, .long l2), (4, .long l4)]) (st2 := [.int 200, .int l1]) (h2 := (q_K0, z.1, z.2, q_R0)) [(.iload_n 1, 0, 0, 0, 0, 0), (.sipush 200, 0, 0, 0, 200, 0)] (by decide +kernel) rfl rfl ⟨trivial, trivial, trivial⟩ ?_
  refine q_ic_lt (off := 4) (tgt := 8) (by decide +kernel) (by decide) (fun c4_1 => ?_) (fun c4_1 => ?_)
  · rw [if_pos c4_1] at h
    have b1 : 0 ≤ Int32.toInt l1 ∧ Int32.toInt l1 < 200 := by
      by_cases q : 0 ≤ Int32.toInt l1 ∧ Int32.toInt l1 < 200
      · exact q
      · rw [if_neg q] at h; cases h
    rw [if_pos b1] at h
    refine q_blk2 (pc2 := 25) (ls2 := [(0, .ref 128), (1, .int l1), (2, .long l2), (4, .long l4)]) (st2 := []) (h2 := (q_K0, q_u2 (q_u2 z.1 132 (Int32.toNatClampNeg l1) (Int64.toInt32 l2)) 133 (Int32.toNatClampNeg l1) (Int64.toInt32 l4), z.2, q_R0)) [(.aload_n 0, 0, 0, 0, 0, 0), (.getfield 19, 0, 9, 9, 0, 0), (.iload_n 1, 0, 0, 0, 0, 0), (.lload_n 2, 0, 0, 0, 0, 0), (.l2i, 0, 0, 0, 0, 0), (.iastore, 0, 0, 0, 0, 0), (.aload_n 0, 0, 0, 0, 0, 0), (.getfield 23, 0, 9, 10, 0, 0), (.iload_n 1, 0, 0, 0, 0, 0), (.lload 4, 0, 0, 0, 0, 0), (.l2i, 0, 0, 0, 0, 0), (.iastore, 0, 0, 0, 0, 0)] (by decide +kernel) rfl rfl ⟨trivial, rfl, trivial, trivial, trivial, ⟨_, rfl, vp_in_iff.mpr b1⟩, trivial, rfl, trivial, trivial, trivial, ⟨_, rfl, vp_in_iff.mpr b1⟩, trivial⟩ ?_
    cases h
    exact q_vret rfl (by decide +kernel)
  · rw [if_neg c4_1] at h
    cases h
    exact q_vret rfl (by decide +kernel)
def T_X10_takes_241 (z : q_Z) (l2 : Int32) (l3 : Int64) (l5 : Int64) (l7 : Int32) (l8 : Int64) (l12 : Int64) (l14 : Int32) : Option ((Int32 × Int64 × Int64 × Int32 × Int64 × Int64 × Int32 × q_Z) × Nat) :=
  some ((l2, l3, l5, l7, l8, l12, l14 + 1, z), 0)
set_option maxRecDepth 100000 in
set_option maxHeartbeats 4000000 in
theorem t_X10_takes_241 {z : q_Z} {l2 : Int32} {l3 : Int64} {l5 : Int64} {l7 : Int32} {l8 : Int64} {l12 : Int64} {l14 : Int32} {s2 : Int32 × Int64 × Int64 × Int32 × Int64 × Int64 × Int32 × q_Z} {t : Nat} {r : Option Value} {h2 : q_H} (h : T_X10_takes_241 z l2 l3 l5 l7 l8 l12 l14 = some (s2, t)) (k0 : t = 0 → q_Ex none 151 159 [(0, .ref 128), (2, .int s2.1), (3, .long s2.2.1), (5, .long s2.2.2.1), (7, .int s2.2.2.2.1), (8, .long s2.2.2.2.2.1), (12, .long s2.2.2.2.2.2.1), (14, .int s2.2.2.2.2.2.2.1)] [] (q_K0, s2.2.2.2.2.2.2.2.1, s2.2.2.2.2.2.2.2.2, q_R0) r h2) (k1 : t = 1 → q_Ex none 151 247 [(0, .ref 128), (2, .int s2.1), (3, .long s2.2.1), (5, .long s2.2.2.1), (7, .int s2.2.2.2.1), (8, .long s2.2.2.2.2.1), (12, .long s2.2.2.2.2.2.1), (14, .int s2.2.2.2.2.2.2.1)] [] (q_K0, s2.2.2.2.2.2.2.2.1, s2.2.2.2.2.2.2.2.2, q_R0) r h2) : q_Ex none 151 241 [(0, .ref 128), (2, .int l2), (3, .long l3), (5, .long l5), (7, .int l7), (8, .long l8), (12, .long l12), (14, .int l14)] [] (q_K0, z.1, z.2, q_R0) r h2 := by
  unfold T_X10_takes_241 at h
  refine q_blk2 (pc2 := 244) (ls2 := [(14, .int (l14 + 1)), (0, .ref 128), (2, .int l2), (3, .long l3), (5, .long l5), (7, .int l7), (8, .long l8), (12, .long l12)]) (st2 := []) (h2 := (q_K0, z.1, z.2, q_R0)) [(.iinc 14 1, 0, 0, 0, 1, 0)] (by decide +kernel) rfl rfl ⟨trivial, trivial⟩ ?_
  refine q_goto (off := -85) (tgt := 159) (by decide +kernel) (by decide) ?_
  cases h
  refine q_pick [1, 2, 3, 4, 5, 6, 7, 0] rfl ?_
  exact k0 rfl
def T_X10_takes_197 (z : q_Z) (l2 : Int32) (l3 : Int64) (l5 : Int64) (l7 : Int32) (l8 : Int64) (l12 : Int64) (l14 : Int32) (t0 : Int64) (t1 : Int64) : Option ((Int32 × Int64 × Int64 × Int32 × Int64 × Int64 × Int32 × q_Z) × Nat) :=
  if ¬ (2 * (z.2 128 14)) = (0 : Int64) then
    if ((t1 + t0) - (t1 + t0) / (2 * (z.2 128 14)) * (2 * (z.2 128 14))) = (0 : Int64) then
      if ¬ (2 * (z.2 128 14)) = (0 : Int64) then
        (F_X10_put z l7 l8 ((t1 + t0) / (2 * (z.2 128 14)))).bind fun (_, z15) =>
          T_X10_takes_241 z15 l2 l3 l5 (l7 + 1) l8 l12 l14
      else none
    else
      T_X10_takes_241 z l2 l3 l5 l7 l8 l12 l14
  else none
set_option maxRecDepth 100000 in
set_option maxHeartbeats 4000000 in
theorem t_X10_takes_197 {z : q_Z} {l2 : Int32} {l3 : Int64} {l5 : Int64} {l7 : Int32} {l8 : Int64} {l12 : Int64} {l14 : Int32} {t0 : Int64} {t1 : Int64} {s2 : Int32 × Int64 × Int64 × Int32 × Int64 × Int64 × Int32 × q_Z} {t : Nat} {r : Option Value} {h2 : q_H} (h : T_X10_takes_197 z l2 l3 l5 l7 l8 l12 l14 t0 t1 = some (s2, t)) (k0 : t = 0 → q_Ex none 151 159 [(0, .ref 128), (2, .int s2.1), (3, .long s2.2.1), (5, .long s2.2.2.1), (7, .int s2.2.2.2.1), (8, .long s2.2.2.2.2.1), (12, .long s2.2.2.2.2.2.1), (14, .int s2.2.2.2.2.2.2.1)] [] (q_K0, s2.2.2.2.2.2.2.2.1, s2.2.2.2.2.2.2.2.2, q_R0) r h2) (k1 : t = 1 → q_Ex none 151 247 [(0, .ref 128), (2, .int s2.1), (3, .long s2.2.1), (5, .long s2.2.2.1), (7, .int s2.2.2.2.1), (8, .long s2.2.2.2.2.1), (12, .long s2.2.2.2.2.2.1), (14, .int s2.2.2.2.2.2.2.1)] [] (q_K0, s2.2.2.2.2.2.2.2.1, s2.2.2.2.2.2.2.2.2, q_R0) r h2) : q_Ex none 151 197 [(0, .ref 128), (2, .int l2), (3, .long l3), (5, .long l5), (7, .int l7), (8, .long l8), (12, .long l12), (14, .int l14)] [.long t0, .long t1] (q_K0, z.1, z.2, q_R0) r h2 := by
  unfold T_X10_takes_197 at h
  have b12 : ¬ (2 * (z.2 128 14)) = (0 : Int64) := by
    by_cases q : ¬ (2 * (z.2 128 14)) = (0 : Int64)
    · exact q
    · rw [if_neg q] at h; cases h
  rw [if_pos b12] at h
  refine q_blk2 (pc2 := 212) (ls2 := [(15, .long (t1 + t0)), (0, .ref 128), (2, .int l2), (3, .long l3), (5, .long l5), (7, .int l7), (8, .long l8), (12, .long l12), (14, .int l14)]) (st2 := [.long 0, .long ((t1 + t0) - (t1 + t0) / (2 * (z.2 128 14)) * (2 * (z.2 128 14)))]) (h2 := (q_K0, z.1, z.2, q_R0)) [(.ladd, 0, 0, 0, 0, 0), (.lstore 15, 0, 0, 0, 0, 0), (.lload 15, 0, 0, 0, 0, 0), (.ldc2_w 70, 0, 0, 0, 0, 2), (.aload_n 0, 0, 0, 0, 0, 0), (.getfield 79, 0, 9, 14, 0, 0), (.lmul, 0, 0, 0, 0, 0), (.lrem, 0, 0, 0, 0, 0), (.lconst 0, 0, 0, 0, 0, 0)] (by decide +kernel) rfl rfl ⟨trivial, trivial, trivial, trivial, trivial, rfl, trivial, b12, trivial, trivial⟩ ?_
  refine q_lc_eq (off := 6) (tgt := 219) (by decide +kernel) (by decide +kernel) (by decide) (fun c212_1 => ?_) (fun c212_1 => ?_)
  · rw [if_pos c212_1] at h
    have b13 : ¬ (2 * (z.2 128 14)) = (0 : Int64) := by
      by_cases q : ¬ (2 * (z.2 128 14)) = (0 : Int64)
      · exact q
      · rw [if_neg q] at h; cases h
    rw [if_pos b13] at h
    refine q_blk2 (pc2 := 235) (ls2 := [(15, .long (t1 + t0)), (0, .ref 128), (2, .int l2), (3, .long l3), (5, .long l5), (7, .int l7), (8, .long l8), (12, .long l12), (14, .int l14)]) (st2 := [.long ((t1 + t0) / (2 * (z.2 128 14))), .long l8, .int l7, .ref 128]) (h2 := (q_K0, z.1, z.2, q_R0)) [(.aload_n 0, 0, 0, 0, 0, 0), (.iload 7, 0, 0, 0, 0, 0), (.lload 8, 0, 0, 0, 0, 0), (.lload 15, 0, 0, 0, 0, 0), (.ldc2_w 70, 0, 0, 0, 0, 2), (.aload_n 0, 0, 0, 0, 0, 0), (.getfield 79, 0, 9, 14, 0, 0), (.lmul, 0, 0, 0, 0, 0), (.ldiv, 0, 0, 0, 0, 0)] (by decide +kernel) rfl rfl ⟨trivial, trivial, trivial, trivial, trivial, trivial, rfl, trivial, b13, trivial⟩ ?_
    obtain ⟨⟨_, z15⟩, hc16, h⟩ := Option.bind_eq_some_iff.mp h
    dsimp only at h
    refine q_cV0 (idx := 266) (h1 := (q_K0, z15.1, z15.2, q_R0)) [.long ((t1 + t0) / (2 * (z.2 128 14))), .long l8, .int l7, .ref 128] 150 128 9 [.int l7, .long l8, .long ((t1 + t0) / (2 * (z.2 128 14)))] [] rfl (by decide +kernel) (by decide +kernel) rfl (Nat.le_of_ble_eq_true rfl) rfl (by decide) (by decide +kernel) (by decide +kernel) (s_X10_put hc16) ?_
    refine q_blk2 (pc2 := 241) (ls2 := [(7, .int (l7 + 1)), (15, .long (t1 + t0)), (0, .ref 128), (2, .int l2), (3, .long l3), (5, .long l5), (8, .long l8), (12, .long l12), (14, .int l14)]) (st2 := []) (h2 := (q_K0, z15.1, z15.2, q_R0)) [(.iinc 7 1, 0, 0, 0, 1, 0)] (by decide +kernel) rfl rfl ⟨trivial, trivial⟩ ?_
    refine q_pick [2, 3, 4, 5, 0, 6, 7, 8] rfl ?_
    exact t_X10_takes_241 h k0 k1
  · rw [if_neg c212_1] at h
    refine q_goto (off := 25) (tgt := 241) (by decide +kernel) (by decide) ?_
    refine q_pick [1, 2, 3, 4, 5, 6, 7, 8] rfl ?_
    exact t_X10_takes_241 h k0 k1
def T_X10_takes_173 (z : q_Z) (l2 : Int32) (l3 : Int64) (l5 : Int64) (l7 : Int32) (l8 : Int64) (l12 : Int64) (l14 : Int32) (t0 : Int32) (t1 : Int32) : Option ((Int32 × Int64 × Int64 × Int32 × Int64 × Int64 × Int32 × q_Z) × Nat) :=
  if t0 ≤ t1 then
    some ((l2, l3, l5, l7, l8, l12, l14, z), 1)
  else
    if l14 = (0 : Int32) then
      T_X10_takes_197 z l2 l3 l5 l7 l8 l12 l14 (-l12) ((-(z.2 128 13)) * l8)
    else
      T_X10_takes_197 z l2 l3 l5 l7 l8 l12 l14 l12 ((-(z.2 128 13)) * l8)
set_option maxRecDepth 100000 in
set_option maxHeartbeats 4000000 in
theorem t_X10_takes_173 {z : q_Z} {l2 : Int32} {l3 : Int64} {l5 : Int64} {l7 : Int32} {l8 : Int64} {l12 : Int64} {l14 : Int32} {t0 : Int32} {t1 : Int32} {s2 : Int32 × Int64 × Int64 × Int32 × Int64 × Int64 × Int32 × q_Z} {t : Nat} {r : Option Value} {h2 : q_H} (h : T_X10_takes_173 z l2 l3 l5 l7 l8 l12 l14 t0 t1 = some (s2, t)) (k0 : t = 0 → q_Ex none 151 159 [(0, .ref 128), (2, .int s2.1), (3, .long s2.2.1), (5, .long s2.2.2.1), (7, .int s2.2.2.2.1), (8, .long s2.2.2.2.2.1), (12, .long s2.2.2.2.2.2.1), (14, .int s2.2.2.2.2.2.2.1)] [] (q_K0, s2.2.2.2.2.2.2.2.1, s2.2.2.2.2.2.2.2.2, q_R0) r h2) (k1 : t = 1 → q_Ex none 151 247 [(0, .ref 128), (2, .int s2.1), (3, .long s2.2.1), (5, .long s2.2.2.1), (7, .int s2.2.2.2.1), (8, .long s2.2.2.2.2.1), (12, .long s2.2.2.2.2.2.1), (14, .int s2.2.2.2.2.2.2.1)] [] (q_K0, s2.2.2.2.2.2.2.2.1, s2.2.2.2.2.2.2.2.2, q_R0) r h2) : q_Ex none 151 173 [(0, .ref 128), (2, .int l2), (3, .long l3), (5, .long l5), (7, .int l7), (8, .long l8), (12, .long l12), (14, .int l14)] [.int t0, .int t1] (q_K0, z.1, z.2, q_R0) r h2 := by
  unfold T_X10_takes_173 at h
  refine q_ic_ge (off := 74) (tgt := 247) (by decide +kernel) (by decide) (fun c173_1 => ?_) (fun c173_1 => ?_)
  · rw [if_pos c173_1] at h
    cases h
    refine q_pick [0, 1, 2, 3, 4, 5, 6, 7] rfl ?_
    exact k1 rfl
  · rw [if_neg c173_1] at h
    refine q_blk2 (pc2 := 186) (ls2 := [(0, .ref 128), (2, .int l2), (3, .long l3), (5, .long l5), (7, .int l7), (8, .long l8), (12, .long l12), (14, .int l14)]) (st2 := [.int l14, .long ((-(z.2 128 13)) * l8)]) (h2 := (q_K0, z.1, z.2, q_R0)) [(.aload_n 0, 0, 0, 0, 0, 0), (.getfield 76, 0, 9, 13, 0, 0), (.lneg, 0, 0, 0, 0, 0), (.lload 8, 0, 0, 0, 0, 0), (.lmul, 0, 0, 0, 0, 0), (.iload 14, 0, 0, 0, 0, 0)] (by decide +kernel) rfl rfl ⟨trivial, rfl, trivial, trivial, trivial, trivial, trivial⟩ ?_
    refine q_if_ne (off := 9) (tgt := 195) (by decide +kernel) (by decide) (fun c186_2 => ?_) (fun c186_2 => ?_)
    · rw [if_neg c186_2] at h
      refine q_blk2 (pc2 := 197) (ls2 := [(0, .ref 128), (2, .int l2), (3, .long l3), (5, .long l5), (7, .int l7), (8, .long l8), (12, .long l12), (14, .int l14)]) (st2 := [.long l12, .long ((-(z.2 128 13)) * l8)]) (h2 := (q_K0, z.1, z.2, q_R0)) [(.lload 12, 0, 0, 0, 0, 0)] (by decide +kernel) rfl rfl ⟨trivial, trivial⟩ ?_
      refine q_pick [0, 1, 2, 3, 4, 5, 6, 7] rfl ?_
      exact t_X10_takes_197 h k0 k1
    · rw [if_pos c186_2] at h
      refine q_blk2 (pc2 := 192) (ls2 := [(0, .ref 128), (2, .int l2), (3, .long l3), (5, .long l5), (7, .int l7), (8, .long l8), (12, .long l12), (14, .int l14)]) (st2 := [.long (-l12), .long ((-(z.2 128 13)) * l8)]) (h2 := (q_K0, z.1, z.2, q_R0)) [(.lload 12, 0, 0, 0, 0, 0), (.lneg, 0, 0, 0, 0, 0)] (by decide +kernel) rfl rfl ⟨trivial, trivial, trivial⟩ ?_
      refine q_goto (off := 5) (tgt := 197) (by decide +kernel) (by decide) ?_
      refine q_pick [0, 1, 2, 3, 4, 5, 6, 7] rfl ?_
      exact t_X10_takes_197 h k0 k1
def B_X10_takes_159 : Int32 × Int64 × Int64 × Int32 × Int64 × Int64 × Int32 × q_Z → Option ((Int32 × Int64 × Int64 × Int32 × Int64 × Int64 × Int32 × q_Z) × Nat) := fun (l2, l3, l5, l7, l8, l12, l14, z) =>
  if l12 = (0 : Int64) then
    T_X10_takes_173 z l2 l3 l5 l7 l8 l12 l14 1 l14
  else
    T_X10_takes_173 z l2 l3 l5 l7 l8 l12 l14 2 l14
set_option maxRecDepth 100000 in
set_option maxHeartbeats 4000000 in
theorem b_X10_takes_159 {s s2 : Int32 × Int64 × Int64 × Int32 × Int64 × Int64 × Int32 × q_Z} {t : Nat} {r : Option Value} {h2 : q_H} (h : B_X10_takes_159 s = some (s2, t)) (k0 : t = 0 → q_Ex none 151 159 [(0, .ref 128), (2, .int s2.1), (3, .long s2.2.1), (5, .long s2.2.2.1), (7, .int s2.2.2.2.1), (8, .long s2.2.2.2.2.1), (12, .long s2.2.2.2.2.2.1), (14, .int s2.2.2.2.2.2.2.1)] [] (q_K0, s2.2.2.2.2.2.2.2.1, s2.2.2.2.2.2.2.2.2, q_R0) r h2) (k1 : t = 1 → q_Ex none 151 247 [(0, .ref 128), (2, .int s2.1), (3, .long s2.2.1), (5, .long s2.2.2.1), (7, .int s2.2.2.2.1), (8, .long s2.2.2.2.2.1), (12, .long s2.2.2.2.2.2.1), (14, .int s2.2.2.2.2.2.2.1)] [] (q_K0, s2.2.2.2.2.2.2.2.1, s2.2.2.2.2.2.2.2.2, q_R0) r h2) : q_Ex none 151 159 [(0, .ref 128), (2, .int s.1), (3, .long s.2.1), (5, .long s.2.2.1), (7, .int s.2.2.2.1), (8, .long s.2.2.2.2.1), (12, .long s.2.2.2.2.2.1), (14, .int s.2.2.2.2.2.2.1)] [] (q_K0, s.2.2.2.2.2.2.2.1, s.2.2.2.2.2.2.2.2, q_R0) r h2 := by
  unfold B_X10_takes_159 at h
  obtain ⟨l2, l3, l5, l7, l8, l12, l14, z⟩ := s
  dsimp only at h
  show q_Ex none 151 159 [(0, .ref 128), (2, .int l2), (3, .long l3), (5, .long l5), (7, .int l7), (8, .long l8), (12, .long l12), (14, .int l14)] [] (q_K0, z.1, z.2, q_R0) r h2
  refine q_blk2 (pc2 := 164) (ls2 := [(0, .ref 128), (2, .int l2), (3, .long l3), (5, .long l5), (7, .int l7), (8, .long l8), (12, .long l12), (14, .int l14)]) (st2 := [.long 0, .long l12, .int l14]) (h2 := (q_K0, z.1, z.2, q_R0)) [(.iload 14, 0, 0, 0, 0, 0), (.lload 12, 0, 0, 0, 0, 0), (.lconst 0, 0, 0, 0, 0, 0)] (by decide +kernel) rfl rfl ⟨trivial, trivial, trivial, trivial⟩ ?_
  refine q_lc_ne (off := 7) (tgt := 172) (by decide +kernel) (by decide +kernel) (by decide) (fun c164_1 => ?_) (fun c164_1 => ?_)
  · rw [if_neg c164_1] at h
    refine q_blk2 (pc2 := 173) (ls2 := [(0, .ref 128), (2, .int l2), (3, .long l3), (5, .long l5), (7, .int l7), (8, .long l8), (12, .long l12), (14, .int l14)]) (st2 := [.int 2, .int l14]) (h2 := (q_K0, z.1, z.2, q_R0)) [(.iconst 2, 0, 0, 0, 2, 0)] (by decide +kernel) rfl rfl ⟨trivial, trivial⟩ ?_
    refine q_pick [0, 1, 2, 3, 4, 5, 6, 7] rfl ?_
    exact t_X10_takes_173 h k0 k1
  · rw [if_pos c164_1] at h
    refine q_blk2 (pc2 := 169) (ls2 := [(0, .ref 128), (2, .int l2), (3, .long l3), (5, .long l5), (7, .int l7), (8, .long l8), (12, .long l12), (14, .int l14)]) (st2 := [.int 1, .int l14]) (h2 := (q_K0, z.1, z.2, q_R0)) [(.iconst 1, 0, 0, 0, 1, 0)] (by decide +kernel) rfl rfl ⟨trivial, trivial⟩ ?_
    refine q_goto (off := 4) (tgt := 173) (by decide +kernel) (by decide) ?_
    refine q_pick [0, 1, 2, 3, 4, 5, 6, 7] rfl ?_
    exact t_X10_takes_173 h k0 k1
def T_X10_takes_247 (z : q_Z) (l2 : Int32) (l3 : Int64) (l5 : Int64) (l7 : Int32) (l8 : Int64) : Option ((Int32 × Int64 × Int64 × Int32 × Int64 × q_Z) × Nat) :=
  some ((l2, l3, l5, l7, l8 + 1, z), 0)
set_option maxRecDepth 100000 in
set_option maxHeartbeats 4000000 in
theorem t_X10_takes_247 {z : q_Z} {l2 : Int32} {l3 : Int64} {l5 : Int64} {l7 : Int32} {l8 : Int64} {s2 : Int32 × Int64 × Int64 × Int32 × Int64 × q_Z} {t : Nat} {r : Option Value} {h2 : q_H} (h : T_X10_takes_247 z l2 l3 l5 l7 l8 = some (s2, t)) (k0 : t = 0 → q_Ex none 151 95 [(0, .ref 128), (2, .int s2.1), (3, .long s2.2.1), (5, .long s2.2.2.1), (7, .int s2.2.2.2.1), (8, .long s2.2.2.2.2.1)] [] (q_K0, s2.2.2.2.2.2.1, s2.2.2.2.2.2.2, q_R0) r h2) (k1 : t = 1 → q_Ex none 151 256 [(0, .ref 128), (2, .int s2.1), (3, .long s2.2.1), (5, .long s2.2.2.1), (7, .int s2.2.2.2.1), (8, .long s2.2.2.2.2.1)] [] (q_K0, s2.2.2.2.2.2.1, s2.2.2.2.2.2.2, q_R0) r h2) : q_Ex none 151 247 [(0, .ref 128), (2, .int l2), (3, .long l3), (5, .long l5), (7, .int l7), (8, .long l8)] [] (q_K0, z.1, z.2, q_R0) r h2 := by
  unfold T_X10_takes_247 at h
  refine q_blk2 (pc2 := 253) (ls2 := [(8, .long (l8 + 1)), (0, .ref 128), (2, .int l2), (3, .long l3), (5, .long l5), (7, .int l7)]) (st2 := []) (h2 := (q_K0, z.1, z.2, q_R0)) [(.lload 8, 0, 0, 0, 0, 0), (.lconst 1, 0, 0, 0, 0, 1), (.ladd, 0, 0, 0, 0, 0), (.lstore 8, 0, 0, 0, 0, 0)] (by decide +kernel) rfl rfl ⟨trivial, trivial, trivial, trivial, trivial⟩ ?_
  refine q_goto (off := -158) (tgt := 95) (by decide +kernel) (by decide) ?_
  cases h
  refine q_pick [1, 2, 3, 4, 5, 0] rfl ?_
  exact k0 rfl
def B_X10_takes_95 : Int32 × Int64 × Int64 × Int32 × Int64 × q_Z → Option ((Int32 × Int64 × Int64 × Int32 × Int64 × q_Z) × Nat) := fun (l2, l3, l5, l7, l8, z) =>
  if l5 < l8 then
    some ((l2, l3, l5, l7, l8, z), 1)
  else
    if (0 : Int64) ≤ (((4 * (z.2 128 14)) * (Int32.toInt64 l2)) - ((l3 * l8) * l8)) then
      (F_X10_root0 z (((4 * (z.2 128 14)) * (Int32.toInt64 l2)) - ((l3 * l8) * l8))).bind fun (r10, z11) =>
        if (r10 * r10) = (((4 * (z.2 128 14)) * (Int32.toInt64 l2)) - ((l3 * l8) * l8)) then
          (q_lp (B_X10_takes_159) q_fu (l2, l3, l5, l7, l8, r10, 0, z11)).bind fun ((w18, w19, w20, w21, w22, w23, w24, z17), tg) =>
            if tg = 0 then
              T_X10_takes_247 z17 w18 w19 w20 w21 w22
            else none
        else
          T_X10_takes_247 z11 l2 l3 l5 l7 l8
    else
      T_X10_takes_247 z l2 l3 l5 l7 l8
set_option maxRecDepth 100000 in
set_option maxHeartbeats 4000000 in
theorem b_X10_takes_95 {s s2 : Int32 × Int64 × Int64 × Int32 × Int64 × q_Z} {t : Nat} {r : Option Value} {h2 : q_H} (h : B_X10_takes_95 s = some (s2, t)) (k0 : t = 0 → q_Ex none 151 95 [(0, .ref 128), (2, .int s2.1), (3, .long s2.2.1), (5, .long s2.2.2.1), (7, .int s2.2.2.2.1), (8, .long s2.2.2.2.2.1)] [] (q_K0, s2.2.2.2.2.2.1, s2.2.2.2.2.2.2, q_R0) r h2) (k1 : t = 1 → q_Ex none 151 256 [(0, .ref 128), (2, .int s2.1), (3, .long s2.2.1), (5, .long s2.2.2.1), (7, .int s2.2.2.2.1), (8, .long s2.2.2.2.2.1)] [] (q_K0, s2.2.2.2.2.2.1, s2.2.2.2.2.2.2, q_R0) r h2) : q_Ex none 151 95 [(0, .ref 128), (2, .int s.1), (3, .long s.2.1), (5, .long s.2.2.1), (7, .int s.2.2.2.1), (8, .long s.2.2.2.2.1)] [] (q_K0, s.2.2.2.2.2.1, s.2.2.2.2.2.2, q_R0) r h2 := by
  unfold B_X10_takes_95 at h
  obtain ⟨l2, l3, l5, l7, l8, z⟩ := s
  dsimp only at h
  show q_Ex none 151 95 [(0, .ref 128), (2, .int l2), (3, .long l3), (5, .long l5), (7, .int l7), (8, .long l8)] [] (q_K0, z.1, z.2, q_R0) r h2
  refine q_blk2 (pc2 := 99) (ls2 := [(0, .ref 128), (2, .int l2), (3, .long l3), (5, .long l5), (7, .int l7), (8, .long l8)]) (st2 := [.long l5, .long l8]) (h2 := (q_K0, z.1, z.2, q_R0)) [(.lload 8, 0, 0, 0, 0, 0), (.lload 5, 0, 0, 0, 0, 0)] (by decide +kernel) rfl rfl ⟨trivial, trivial, trivial⟩ ?_
  refine q_lc_gt (off := 156) (tgt := 256) (by decide +kernel) (by decide +kernel) (by decide) (fun c99_1 => ?_) (fun c99_1 => ?_)
  · rw [if_pos c99_1] at h
    cases h
    refine q_pick [0, 1, 2, 3, 4, 5] rfl ?_
    exact k1 rfl
  · rw [if_neg c99_1] at h
    refine q_blk2 (pc2 := 127) (ls2 := [(10, .long (((4 * (z.2 128 14)) * (Int32.toInt64 l2)) - ((l3 * l8) * l8))), (0, .ref 128), (2, .int l2), (3, .long l3), (5, .long l5), (7, .int l7), (8, .long l8)]) (st2 := [.long 0, .long (((4 * (z.2 128 14)) * (Int32.toInt64 l2)) - ((l3 * l8) * l8))]) (h2 := (q_K0, z.1, z.2, q_R0)) [(.ldc2_w 85, 0, 0, 0, 0, 4), (.aload_n 0, 0, 0, 0, 0, 0), (.getfield 79, 0, 9, 14, 0, 0), (.lmul, 0, 0, 0, 0, 0), (.iload_n 2, 0, 0, 0, 0, 0), (.i2l, 0, 0, 0, 0, 0), (.lmul, 0, 0, 0, 0, 0), (.lload_n 3, 0, 0, 0, 0, 0), (.lload 8, 0, 0, 0, 0, 0), (.lmul, 0, 0, 0, 0, 0), (.lload 8, 0, 0, 0, 0, 0), (.lmul, 0, 0, 0, 0, 0), (.lsub, 0, 0, 0, 0, 0), (.lstore 10, 0, 0, 0, 0, 0), (.lload 10, 0, 0, 0, 0, 0), (.lconst 0, 0, 0, 0, 0, 0)] (by decide +kernel) rfl rfl ⟨trivial, trivial, rfl, trivial, trivial, trivial, trivial, trivial, trivial, trivial, trivial, trivial, trivial, trivial, trivial, trivial, trivial⟩ ?_
    refine q_lc_ge (off := 6) (tgt := 134) (by decide +kernel) (by decide +kernel) (by decide) (fun c127_2 => ?_) (fun c127_2 => ?_)
    · rw [if_pos c127_2] at h
      refine q_blk2 (pc2 := 137) (ls2 := [(10, .long (((4 * (z.2 128 14)) * (Int32.toInt64 l2)) - ((l3 * l8) * l8))), (0, .ref 128), (2, .int l2), (3, .long l3), (5, .long l5), (7, .int l7), (8, .long l8)]) (st2 := [.long (((4 * (z.2 128 14)) * (Int32.toInt64 l2)) - ((l3 * l8) * l8)), .ref 128]) (h2 := (q_K0, z.1, z.2, q_R0)) [(.aload_n 0, 0, 0, 0, 0, 0), (.lload 10, 0, 0, 0, 0, 0)] (by decide +kernel) rfl rfl ⟨trivial, trivial, trivial⟩ ?_
      obtain ⟨⟨r10, z11⟩, hc25, h⟩ := Option.bind_eq_some_iff.mp h
      dsimp only at h
      refine q_cV1 (idx := 116) (v := .long r10) (h1 := (q_K0, z11.1, z11.2, q_R0)) [.long (((4 * (z.2 128 14)) * (Int32.toInt64 l2)) - ((l3 * l8) * l8)), .ref 128] 102 128 9 [.long (((4 * (z.2 128 14)) * (Int32.toInt64 l2)) - ((l3 * l8) * l8))] [] rfl (by decide +kernel) (by decide +kernel) rfl (Nat.le_of_ble_eq_true rfl) rfl (by decide) (by decide +kernel) (by decide +kernel) (s_X10_root0 hc25) ?_
      refine q_blk2 (pc2 := 149) (ls2 := [(12, .long r10), (10, .long (((4 * (z.2 128 14)) * (Int32.toInt64 l2)) - ((l3 * l8) * l8))), (0, .ref 128), (2, .int l2), (3, .long l3), (5, .long l5), (7, .int l7), (8, .long l8)]) (st2 := [.long (((4 * (z.2 128 14)) * (Int32.toInt64 l2)) - ((l3 * l8) * l8)), .long (r10 * r10)]) (h2 := (q_K0, z11.1, z11.2, q_R0)) [(.lstore 12, 0, 0, 0, 0, 0), (.lload 12, 0, 0, 0, 0, 0), (.lload 12, 0, 0, 0, 0, 0), (.lmul, 0, 0, 0, 0, 0), (.lload 10, 0, 0, 0, 0, 0)] (by decide +kernel) rfl rfl ⟨trivial, trivial, trivial, trivial, trivial, trivial⟩ ?_
      refine q_lc_eq (off := 6) (tgt := 156) (by decide +kernel) (by decide +kernel) (by decide) (fun c149_3 => ?_) (fun c149_3 => ?_)
      · rw [if_pos c149_3] at h
        refine q_blk2 (pc2 := 159) (ls2 := [(14, .int 0), (12, .long r10), (10, .long (((4 * (z.2 128 14)) * (Int32.toInt64 l2)) - ((l3 * l8) * l8))), (0, .ref 128), (2, .int l2), (3, .long l3), (5, .long l5), (7, .int l7), (8, .long l8)]) (st2 := []) (h2 := (q_K0, z11.1, z11.2, q_R0)) [(.iconst 0, 0, 0, 0, 0, 0), (.istore 14, 0, 0, 0, 0, 0)] (by decide +kernel) rfl rfl ⟨trivial, trivial, trivial⟩ ?_
        obtain ⟨⟨⟨w18, w19, w20, w21, w22, w23, w24, z17⟩, tg27⟩, hl26, h⟩ := Option.bind_eq_some_iff.mp h
        dsimp only at h
        refine q_pick [3, 4, 5, 6, 7, 8, 1, 0] rfl ?_
        refine q_lp_ok (P := fun s => q_Ex _ 151 159 [(0, .ref 128), (2, .int s.1), (3, .long s.2.1), (5, .long s.2.2.1), (7, .int s.2.2.2.1), (8, .long s.2.2.2.2.1), (12, .long s.2.2.2.2.2.1), (14, .int s.2.2.2.2.2.2.1)] [] (q_K0, s.2.2.2.2.2.2.2.1, s.2.2.2.2.2.2.2.2, q_R0) _ _) (X := fun u s => (u = 0 → q_Ex _ 151 247 [(0, .ref 128), (2, .int s.1), (3, .long s.2.1), (5, .long s.2.2.1), (7, .int s.2.2.2.1), (8, .long s.2.2.2.2.1), (12, .long s.2.2.2.2.2.1), (14, .int s.2.2.2.2.2.2.1)] [] (q_K0, s.2.2.2.2.2.2.2.1, s.2.2.2.2.2.2.2.2, q_R0) _ _)) (fun s s2 t hh k0 kx => b_X10_takes_159 hh k0 (fun e => (kx 0 e) rfl)) hl26 ?_
        · intro e_tg27
          subst e_tg27
          rw [if_pos rfl] at h
          show q_Ex _ 151 247 [(0, .ref 128), (2, .int w18), (3, .long w19), (5, .long w20), (7, .int w21), (8, .long w22), (12, .long w23), (14, .int w24)] [] (q_K0, z17.1, z17.2, q_R0) _ _
          refine q_pick [0, 1, 2, 3, 4, 5] rfl ?_
          exact t_X10_takes_247 h k0 k1
      · rw [if_neg c149_3] at h
        refine q_goto (off := 94) (tgt := 247) (by decide +kernel) (by decide) ?_
        refine q_pick [2, 3, 4, 5, 6, 7] rfl ?_
        exact t_X10_takes_247 h k0 k1
    · rw [if_neg c127_2] at h
      refine q_goto (off := 116) (tgt := 247) (by decide +kernel) (by decide) ?_
      refine q_pick [1, 2, 3, 4, 5, 6] rfl ?_
      exact t_X10_takes_247 h k0 k1
def T_X10_takes_273 (z : q_Z) (l7 : Int32) (t0 : Int32) : Option (Int32 × q_Z) :=
  some (l7, (q_u2 z.1 128 11 t0, z.2))
set_option maxRecDepth 100000 in
set_option maxHeartbeats 4000000 in
theorem t_X10_takes_273 {z zR : q_Z} {l7 : Int32} {t0 : Int32} {rv : Int32} (h : T_X10_takes_273 z l7 t0 = some (rv, zR)) : q_Ex none 151 273 [(7, .int l7)] [.int t0, .ref 128] (q_K0, z.1, z.2, q_R0) (some (.int rv)) (q_K0, zR.1, zR.2, q_R0) := by
  unfold T_X10_takes_273 at h
  refine q_blk2 (pc2 := 278) (ls2 := [(7, .int l7)]) (st2 := [.int l7]) (h2 := (q_K0, q_u2 z.1 128 11 t0, z.2, q_R0)) [(.putfield 270, 0, 9, 11, 0, 0), (.iload 7, 0, 0, 0, 0, 0)] (by decide +kernel) rfl rfl ⟨⟨rfl, rfl, rfl⟩, trivial, trivial⟩ ?_
  cases h
  exact q_iret .int rfl rfl (by decide +kernel)
/-- RootFormsModel.takes(II)I -/
def F_X10_takes (z : q_Z) (l1 : Int32) (l2 : Int32) : Option (Int32 × q_Z) :=
  (F_X10_isPlace (q_u2 z.1 128 3 0, z.2) l1).bind fun (r1, z2) =>
    if r1 = (0 : Int32) then
      (F_X10_no z2 2).bind fun (r38, z39) =>
        some (r38, z39)
    else
      if (z2.1 128 0) ≤ (0 : Int32) then
        (F_X10_in z2 (Int32.toInt64 l2) 1 100000).bind fun (r3, z4) =>
          if r3 = (0 : Int32) then
            (F_X10_no z4 1).bind fun (r34, z35) =>
              some (r34, z35)
          else
            (F_X10_take (q_u2 z4.1 128 2 0, z4.2) l1).bind fun (_, z6) =>
              if ¬ (Int32.toInt64 (-(z6.1 128 0))) = (0 : Int64) then
                (F_X10_root0 z6 (((4 * (z6.2 128 14)) * (Int32.toInt64 l2)) / (Int32.toInt64 (-(z6.1 128 0))))).bind fun (r8, z9) =>
                  (q_lp (B_X10_takes_95) q_fu (l2, Int32.toInt64 (-(z6.1 128 0)), r8, 0, -r8, z9)).bind fun ((w29, w30, w31, w32, w33, z28), tg) =>
                    if tg = 0 then
                      if (200 : Int32) ≤ w32 then
                        T_X10_takes_273 z28 w32 200
                      else
                        T_X10_takes_273 z28 w32 w32
                    else none
              else none
      else
        (F_X10_no z2 5).bind fun (r36, z37) =>
          some (r36, z37)
set_option maxRecDepth 100000 in
set_option maxHeartbeats 4000000 in
theorem s_X10_takes {z zR : q_Z} {l1 : Int32} {l2 : Int32} {rv : Int32} (h : F_X10_takes z l1 l2 = some (rv, zR)) : q_Ca 151 [.ref 128, .int l1, .int l2] (q_K0, z.1, z.2, q_R0) (some (.int rv)) (q_K0, zR.1, zR.2, q_R0) := by
  refine q_Ca_of (by decide) (Nat.le_of_ble_eq_true rfl) ?_
  show q_Ex none 151 0 [(0, .ref 128), (1, .int l1), (2, .int l2)] [] (q_K0, z.1, z.2, q_R0) _ _
  unfold F_X10_takes at h
  refine q_blk2 (pc2 := 7) (ls2 := [(0, .ref 128), (1, .int l1), (2, .int l2)]) (st2 := [.int l1, .ref 128]) (h2 := (q_K0, q_u2 z.1 128 3 0, z.2, q_R0)) [(.aload_n 0, 0, 0, 0, 0, 0), (.iconst 0, 0, 0, 0, 0, 0), (.putfield 57, 0, 9, 3, 0, 0), (.aload_n 0, 0, 0, 0, 0, 0), (.iload_n 1, 0, 0, 0, 0, 0)] (by decide +kernel) rfl rfl ⟨trivial, trivial, ⟨rfl, rfl, rfl⟩, trivial, trivial, trivial⟩ ?_
  obtain ⟨⟨r1, z2⟩, hc40, h⟩ := Option.bind_eq_some_iff.mp h
  dsimp only at h
  refine q_cV1 (idx := 162) (v := .int r1) (h1 := (q_K0, z2.1, z2.2, q_R0)) [.int l1, .ref 128] 116 128 9 [.int l1] [] rfl (by decide +kernel) (by decide +kernel) rfl (Nat.le_of_ble_eq_true rfl) rfl (by decide) (by decide +kernel) (by decide +kernel) (s_X10_isPlace hc40) ?_
  refine q_if_ne (off := 9) (tgt := 19) (by decide +kernel) (by decide) (fun c10_1 => ?_) (fun c10_1 => ?_)
  · rw [if_neg c10_1] at h
    refine q_blk2 (pc2 := 23) (ls2 := [(0, .ref 128), (1, .int l1), (2, .int l2)]) (st2 := [.int (z2.1 128 0)]) (h2 := (q_K0, z2.1, z2.2, q_R0)) [(.aload_n 0, 0, 0, 0, 0, 0), (.getfield 82, 0, 9, 0, 0, 0)] (by decide +kernel) rfl rfl ⟨trivial, rfl, trivial⟩ ?_
    refine q_if_le (off := 9) (tgt := 32) (by decide +kernel) (by decide) (fun c23_2 => ?_) (fun c23_2 => ?_)
    · rw [if_pos c23_2] at h
      refine q_blk2 (pc2 := 39) (ls2 := [(0, .ref 128), (1, .int l1), (2, .int l2)]) (st2 := [.long 100000, .long 1, .long (Int32.toInt64 l2), .ref 128]) (h2 := (q_K0, z2.1, z2.2, q_R0)) [(.aload_n 0, 0, 0, 0, 0, 0), (.iload_n 2, 0, 0, 0, 0, 0), (.i2l, 0, 0, 0, 0, 0), (.lconst 1, 0, 0, 0, 0, 1), (.ldc2_w 264, 0, 0, 0, 0, 100000)] (by decide +kernel) rfl rfl ⟨trivial, trivial, trivial, trivial, trivial, trivial⟩ ?_
      obtain ⟨⟨r3, z4⟩, hc41, h⟩ := Option.bind_eq_some_iff.mp h
      dsimp only at h
      refine q_cV1 (idx := 138) (v := .int r3) (h1 := (q_K0, z4.1, z4.2, q_R0)) [.long 100000, .long 1, .long (Int32.toInt64 l2), .ref 128] 99 128 9 [.long (Int32.toInt64 l2), .long 1, .long 100000] [] rfl (by decide +kernel) (by decide +kernel) rfl (Nat.le_of_ble_eq_true rfl) rfl (by decide) (by decide +kernel) (by decide +kernel) (s_X10_in hc41) ?_
      refine q_if_ne (off := 9) (tgt := 51) (by decide +kernel) (by decide) (fun c42_3 => ?_) (fun c42_3 => ?_)
      · rw [if_neg c42_3] at h
        refine q_blk2 (pc2 := 58) (ls2 := [(0, .ref 128), (1, .int l1), (2, .int l2)]) (st2 := [.int l1, .ref 128]) (h2 := (q_K0, q_u2 z4.1 128 2 0, z4.2, q_R0)) [(.aload_n 0, 0, 0, 0, 0, 0), (.iconst 0, 0, 0, 0, 0, 0), (.putfield 61, 0, 9, 2, 0, 0), (.aload_n 0, 0, 0, 0, 0, 0), (.iload_n 1, 0, 0, 0, 0, 0)] (by decide +kernel) rfl rfl ⟨trivial, trivial, ⟨rfl, rfl, rfl⟩, trivial, trivial, trivial⟩ ?_
        obtain ⟨⟨_, z6⟩, hc42, h⟩ := Option.bind_eq_some_iff.mp h
        dsimp only at h
        refine q_cV0 (idx := 166) (h1 := (q_K0, z6.1, z6.2, q_R0)) [.int l1, .ref 128] 103 128 9 [.int l1] [] rfl (by decide +kernel) (by decide +kernel) rfl (Nat.le_of_ble_eq_true rfl) rfl (by decide) (by decide +kernel) (by decide +kernel) (s_X10_take hc42) ?_
        have b7 : ¬ (Int32.toInt64 (-(z6.1 128 0))) = (0 : Int64) := by
          by_cases q : ¬ (Int32.toInt64 (-(z6.1 128 0))) = (0 : Int64)
          · exact q
          · rw [if_neg q] at h; cases h
        rw [if_pos b7] at h
        refine q_blk2 (pc2 := 82) (ls2 := [(3, .long (Int32.toInt64 (-(z6.1 128 0)))), (0, .ref 128), (1, .int l1), (2, .int l2)]) (st2 := [.long (((4 * (z6.2 128 14)) * (Int32.toInt64 l2)) / (Int32.toInt64 (-(z6.1 128 0)))), .ref 128]) (h2 := (q_K0, z6.1, z6.2, q_R0)) [(.aload_n 0, 0, 0, 0, 0, 0), (.getfield 82, 0, 9, 0, 0, 0), (.ineg, 0, 0, 0, 0, 0), (.i2l, 0, 0, 0, 0, 0), (.lstore_n 3, 0, 0, 0, 0, 0), (.aload_n 0, 0, 0, 0, 0, 0), (.ldc2_w 85, 0, 0, 0, 0, 4), (.aload_n 0, 0, 0, 0, 0, 0), (.getfield 79, 0, 9, 14, 0, 0), (.lmul, 0, 0, 0, 0, 0), (.iload_n 2, 0, 0, 0, 0, 0), (.i2l, 0, 0, 0, 0, 0), (.lmul, 0, 0, 0, 0, 0), (.lload_n 3, 0, 0, 0, 0, 0), (.ldiv, 0, 0, 0, 0, 0)] (by decide +kernel) rfl rfl ⟨trivial, rfl, trivial, trivial, trivial, trivial, trivial, trivial, rfl, trivial, trivial, trivial, trivial, trivial, b7, trivial⟩ ?_
        obtain ⟨⟨r8, z9⟩, hc43, h⟩ := Option.bind_eq_some_iff.mp h
        dsimp only at h
        refine q_cV1 (idx := 116) (v := .long r8) (h1 := (q_K0, z9.1, z9.2, q_R0)) [.long (((4 * (z6.2 128 14)) * (Int32.toInt64 l2)) / (Int32.toInt64 (-(z6.1 128 0)))), .ref 128] 102 128 9 [.long (((4 * (z6.2 128 14)) * (Int32.toInt64 l2)) / (Int32.toInt64 (-(z6.1 128 0))))] [] rfl (by decide +kernel) (by decide +kernel) rfl (Nat.le_of_ble_eq_true rfl) rfl (by decide) (by decide +kernel) (by decide +kernel) (s_X10_root0 hc43) ?_
        refine q_blk2 (pc2 := 95) (ls2 := [(8, .long (-r8)), (7, .int 0), (5, .long r8), (3, .long (Int32.toInt64 (-(z6.1 128 0)))), (0, .ref 128), (1, .int l1), (2, .int l2)]) (st2 := []) (h2 := (q_K0, z9.1, z9.2, q_R0)) [(.lstore 5, 0, 0, 0, 0, 0), (.iconst 0, 0, 0, 0, 0, 0), (.istore 7, 0, 0, 0, 0, 0), (.lload 5, 0, 0, 0, 0, 0), (.lneg, 0, 0, 0, 0, 0), (.lstore 8, 0, 0, 0, 0, 0)] (by decide +kernel) rfl rfl ⟨trivial, trivial, trivial, trivial, trivial, trivial, trivial⟩ ?_
        obtain ⟨⟨⟨w29, w30, w31, w32, w33, z28⟩, tg45⟩, hl44, h⟩ := Option.bind_eq_some_iff.mp h
        dsimp only at h
        refine q_pick [4, 6, 3, 2, 1, 0] rfl ?_
        refine q_lp_ok (P := fun s => q_Ex _ 151 95 [(0, .ref 128), (2, .int s.1), (3, .long s.2.1), (5, .long s.2.2.1), (7, .int s.2.2.2.1), (8, .long s.2.2.2.2.1)] [] (q_K0, s.2.2.2.2.2.1, s.2.2.2.2.2.2, q_R0) _ _) (X := fun u s => (u = 0 → q_Ex _ 151 256 [(0, .ref 128), (2, .int s.1), (3, .long s.2.1), (5, .long s.2.2.1), (7, .int s.2.2.2.1), (8, .long s.2.2.2.2.1)] [] (q_K0, s.2.2.2.2.2.1, s.2.2.2.2.2.2, q_R0) _ _)) (fun s s2 t hh k0 kx => b_X10_takes_95 hh k0 (fun e => (kx 0 e) rfl)) hl44 ?_
        · intro e_tg45
          subst e_tg45
          rw [if_pos rfl] at h
          show q_Ex _ 151 256 [(0, .ref 128), (2, .int w29), (3, .long w30), (5, .long w31), (7, .int w32), (8, .long w33)] [] (q_K0, z28.1, z28.2, q_R0) _ _
          refine q_blk2 (pc2 := 262) (ls2 := [(0, .ref 128), (2, .int w29), (3, .long w30), (5, .long w31), (7, .int w32), (8, .long w33)]) (st2 := [.int 200, .int w32, .ref 128]) (h2 := (q_K0, z28.1, z28.2, q_R0)) [(.aload_n 0, 0, 0, 0, 0, 0), (.iload 7, 0, 0, 0, 0, 0), (.sipush 200, 0, 0, 0, 200, 0)] (by decide +kernel) rfl rfl ⟨trivial, trivial, trivial, trivial⟩ ?_
          refine q_ic_ge (off := 8) (tgt := 270) (by decide +kernel) (by decide) (fun c262_4 => ?_) (fun c262_4 => ?_)
          · rw [if_pos c262_4] at h
            refine q_blk2 (pc2 := 273) (ls2 := [(0, .ref 128), (2, .int w29), (3, .long w30), (5, .long w31), (7, .int w32), (8, .long w33)]) (st2 := [.int 200, .ref 128]) (h2 := (q_K0, z28.1, z28.2, q_R0)) [(.sipush 200, 0, 0, 0, 200, 0)] (by decide +kernel) rfl rfl ⟨trivial, trivial⟩ ?_
            refine q_pick [4] rfl ?_
            exact t_X10_takes_273 h
          · rw [if_neg c262_4] at h
            refine q_blk2 (pc2 := 267) (ls2 := [(0, .ref 128), (2, .int w29), (3, .long w30), (5, .long w31), (7, .int w32), (8, .long w33)]) (st2 := [.int w32, .ref 128]) (h2 := (q_K0, z28.1, z28.2, q_R0)) [(.iload 7, 0, 0, 0, 0, 0)] (by decide +kernel) rfl rfl ⟨trivial, trivial⟩ ?_
            refine q_goto (off := 6) (tgt := 273) (by decide +kernel) (by decide) ?_
            refine q_pick [4] rfl ?_
            exact t_X10_takes_273 h
      · rw [if_pos c42_3] at h
        refine q_blk2 (pc2 := 47) (ls2 := [(0, .ref 128), (1, .int l1), (2, .int l2)]) (st2 := [.int 1, .ref 128]) (h2 := (q_K0, z4.1, z4.2, q_R0)) [(.aload_n 0, 0, 0, 0, 0, 0), (.iconst 1, 0, 0, 0, 1, 0)] (by decide +kernel) rfl rfl ⟨trivial, trivial, trivial⟩ ?_
        obtain ⟨⟨r34, z35⟩, hc46, h⟩ := Option.bind_eq_some_iff.mp h
        dsimp only at h
        refine q_cV1 (idx := 152) (v := .int r34) (h1 := (q_K0, z35.1, z35.2, q_R0)) [.int 1, .ref 128] 98 128 9 [.int 1] [] rfl (by decide +kernel) (by decide +kernel) rfl (Nat.le_of_ble_eq_true rfl) rfl (by decide) (by decide +kernel) (by decide +kernel) (s_X10_no hc46) ?_
        cases h
        exact q_iret .int rfl rfl (by decide +kernel)
    · rw [if_neg c23_2] at h
      refine q_blk2 (pc2 := 28) (ls2 := [(0, .ref 128), (1, .int l1), (2, .int l2)]) (st2 := [.int 5, .ref 128]) (h2 := (q_K0, z2.1, z2.2, q_R0)) [(.aload_n 0, 0, 0, 0, 0, 0), (.iconst 5, 0, 0, 0, 5, 0)] (by decide +kernel) rfl rfl ⟨trivial, trivial, trivial⟩ ?_
      obtain ⟨⟨r36, z37⟩, hc47, h⟩ := Option.bind_eq_some_iff.mp h
      dsimp only at h
      refine q_cV1 (idx := 152) (v := .int r36) (h1 := (q_K0, z37.1, z37.2, q_R0)) [.int 5, .ref 128] 98 128 9 [.int 5] [] rfl (by decide +kernel) (by decide +kernel) rfl (Nat.le_of_ble_eq_true rfl) rfl (by decide) (by decide +kernel) (by decide +kernel) (s_X10_no hc47) ?_
      cases h
      exact q_iret .int rfl rfl (by decide +kernel)
  · rw [if_pos c10_1] at h
    refine q_blk2 (pc2 := 15) (ls2 := [(0, .ref 128), (1, .int l1), (2, .int l2)]) (st2 := [.int 2, .ref 128]) (h2 := (q_K0, z2.1, z2.2, q_R0)) [(.aload_n 0, 0, 0, 0, 0, 0), (.iconst 2, 0, 0, 0, 2, 0)] (by decide +kernel) rfl rfl ⟨trivial, trivial, trivial⟩ ?_
    obtain ⟨⟨r38, z39⟩, hc48, h⟩ := Option.bind_eq_some_iff.mp h
    dsimp only at h
    refine q_cV1 (idx := 152) (v := .int r38) (h1 := (q_K0, z39.1, z39.2, q_R0)) [.int 2, .ref 128] 98 128 9 [.int 2] [] rfl (by decide +kernel) (by decide +kernel) rfl (Nat.le_of_ble_eq_true rfl) rfl (by decide) (by decide +kernel) (by decide +kernel) (s_X10_no hc48) ?_
    cases h
    exact q_iret .int rfl rfl (by decide +kernel)
def T_X10_proper_49 (z : q_Z) : Option (Int32 × q_Z) :=
  (F_X10_no z 1).bind fun (r5, z6) =>
    some (r5, z6)
set_option maxRecDepth 100000 in
set_option maxHeartbeats 4000000 in
theorem t_X10_proper_49 {z zR : q_Z} {rv : Int32} (h : T_X10_proper_49 z = some (rv, zR)) : q_Ex none 152 49 [(0, .ref 128)] [] (q_K0, z.1, z.2, q_R0) (some (.int rv)) (q_K0, zR.1, zR.2, q_R0) := by
  unfold T_X10_proper_49 at h
  refine q_blk2 (pc2 := 51) (ls2 := [(0, .ref 128)]) (st2 := [.int 1, .ref 128]) (h2 := (q_K0, z.1, z.2, q_R0)) [(.aload_n 0, 0, 0, 0, 0, 0), (.iconst 1, 0, 0, 0, 1, 0)] (by decide +kernel) rfl rfl ⟨trivial, trivial, trivial⟩ ?_
  obtain ⟨⟨r5, z6⟩, hc7, h⟩ := Option.bind_eq_some_iff.mp h
  dsimp only at h
  refine q_cV1 (idx := 152) (v := .int r5) (h1 := (q_K0, z6.1, z6.2, q_R0)) [.int 1, .ref 128] 98 128 9 [.int 1] [] rfl (by decide +kernel) (by decide +kernel) rfl (Nat.le_of_ble_eq_true rfl) rfl (by decide) (by decide +kernel) (by decide +kernel) (s_X10_no hc7) ?_
  cases h
  exact q_iret .int rfl rfl (by decide +kernel)
def T_X10_proper_118 (z : q_Z) (l2 : Int32) (l3 : Int32) (l4 : Int32) (l5 : Int64) (l7 : Int64) : Option ((Int32 × Int32 × Int32 × Int64 × Int64 × q_Z) × Nat) :=
  some ((l2, l3, l4, l5, l7 + 1, z), 0)
set_option maxRecDepth 100000 in
set_option maxHeartbeats 4000000 in
theorem t_X10_proper_118 {z : q_Z} {l2 : Int32} {l3 : Int32} {l4 : Int32} {l5 : Int64} {l7 : Int64} {s2 : Int32 × Int32 × Int32 × Int64 × Int64 × q_Z} {t : Nat} {r : Option Value} {h2 : q_H} (h : T_X10_proper_118 z l2 l3 l4 l5 l7 = some (s2, t)) (k0 : t = 0 → q_Ex none 152 88 [(0, .ref 128), (2, .int s2.1), (3, .int s2.2.1), (4, .int s2.2.2.1), (5, .long s2.2.2.2.1), (7, .long s2.2.2.2.2.1)] [] (q_K0, s2.2.2.2.2.2.1, s2.2.2.2.2.2.2, q_R0) r h2) (k1 : t = 1 → q_Ex none 152 127 [(0, .ref 128), (2, .int s2.1), (3, .int s2.2.1), (4, .int s2.2.2.1), (5, .long s2.2.2.2.1), (7, .long s2.2.2.2.2.1)] [] (q_K0, s2.2.2.2.2.2.1, s2.2.2.2.2.2.2, q_R0) r h2) : q_Ex none 152 118 [(0, .ref 128), (2, .int l2), (3, .int l3), (4, .int l4), (5, .long l5), (7, .long l7)] [] (q_K0, z.1, z.2, q_R0) r h2 := by
  unfold T_X10_proper_118 at h
  refine q_blk2 (pc2 := 124) (ls2 := [(7, .long (l7 + 1)), (0, .ref 128), (2, .int l2), (3, .int l3), (4, .int l4), (5, .long l5)]) (st2 := []) (h2 := (q_K0, z.1, z.2, q_R0)) [(.lload 7, 0, 0, 0, 0, 0), (.lconst 1, 0, 0, 0, 0, 1), (.ladd, 0, 0, 0, 0, 0), (.lstore 7, 0, 0, 0, 0, 0)] (by decide +kernel) rfl rfl ⟨trivial, trivial, trivial, trivial, trivial⟩ ?_
  refine q_goto (off := -36) (tgt := 88) (by decide +kernel) (by decide) ?_
  cases h
  refine q_pick [1, 2, 3, 4, 5, 0] rfl ?_
  exact k0 rfl
def B_X10_proper_88 : Int32 × Int32 × Int32 × Int64 × Int64 × q_Z → Option ((Int32 × Int32 × Int32 × Int64 × Int64 × q_Z) × Nat) := fun (l2, l3, l4, l5, l7, z) =>
  if l5 ≤ l7 then
    some ((l2, l3, l4, l5, l7, z), 1)
  else
    (F_X10_isForm z (Int32.toInt64 l2) l7).bind fun (r14, z15) =>
      if r14 = (0 : Int32) then
        T_X10_proper_118 z15 l2 l3 l4 l5 l7
      else
        (F_X10_classHere z15).bind fun (r16, z17) =>
          if r16 = l3 then
            T_X10_proper_118 z17 l2 l3 (l4 + 1) l5 l7
          else
            T_X10_proper_118 z17 l2 l3 l4 l5 l7
set_option maxRecDepth 100000 in
set_option maxHeartbeats 4000000 in
theorem b_X10_proper_88 {s s2 : Int32 × Int32 × Int32 × Int64 × Int64 × q_Z} {t : Nat} {r : Option Value} {h2 : q_H} (h : B_X10_proper_88 s = some (s2, t)) (k0 : t = 0 → q_Ex none 152 88 [(0, .ref 128), (2, .int s2.1), (3, .int s2.2.1), (4, .int s2.2.2.1), (5, .long s2.2.2.2.1), (7, .long s2.2.2.2.2.1)] [] (q_K0, s2.2.2.2.2.2.1, s2.2.2.2.2.2.2, q_R0) r h2) (k1 : t = 1 → q_Ex none 152 127 [(0, .ref 128), (2, .int s2.1), (3, .int s2.2.1), (4, .int s2.2.2.1), (5, .long s2.2.2.2.1), (7, .long s2.2.2.2.2.1)] [] (q_K0, s2.2.2.2.2.2.1, s2.2.2.2.2.2.2, q_R0) r h2) : q_Ex none 152 88 [(0, .ref 128), (2, .int s.1), (3, .int s.2.1), (4, .int s.2.2.1), (5, .long s.2.2.2.1), (7, .long s.2.2.2.2.1)] [] (q_K0, s.2.2.2.2.2.1, s.2.2.2.2.2.2, q_R0) r h2 := by
  unfold B_X10_proper_88 at h
  obtain ⟨l2, l3, l4, l5, l7, z⟩ := s
  dsimp only at h
  show q_Ex none 152 88 [(0, .ref 128), (2, .int l2), (3, .int l3), (4, .int l4), (5, .long l5), (7, .long l7)] [] (q_K0, z.1, z.2, q_R0) r h2
  refine q_blk2 (pc2 := 92) (ls2 := [(0, .ref 128), (2, .int l2), (3, .int l3), (4, .int l4), (5, .long l5), (7, .long l7)]) (st2 := [.long l5, .long l7]) (h2 := (q_K0, z.1, z.2, q_R0)) [(.lload 7, 0, 0, 0, 0, 0), (.lload 5, 0, 0, 0, 0, 0)] (by decide +kernel) rfl rfl ⟨trivial, trivial, trivial⟩ ?_
  refine q_lc_ge (off := 34) (tgt := 127) (by decide +kernel) (by decide +kernel) (by decide) (fun c92_1 => ?_) (fun c92_1 => ?_)
  · rw [if_pos c92_1] at h
    cases h
    refine q_pick [0, 1, 2, 3, 4, 5] rfl ?_
    exact k1 rfl
  · rw [if_neg c92_1] at h
    refine q_blk2 (pc2 := 101) (ls2 := [(0, .ref 128), (2, .int l2), (3, .int l3), (4, .int l4), (5, .long l5), (7, .long l7)]) (st2 := [.long l7, .long (Int32.toInt64 l2), .ref 128]) (h2 := (q_K0, z.1, z.2, q_R0)) [(.aload_n 0, 0, 0, 0, 0, 0), (.iload_n 2, 0, 0, 0, 0, 0), (.i2l, 0, 0, 0, 0, 0), (.lload 7, 0, 0, 0, 0, 0)] (by decide +kernel) rfl rfl ⟨trivial, trivial, trivial, trivial, trivial⟩ ?_
    obtain ⟨⟨r14, z15⟩, hc18, h⟩ := Option.bind_eq_some_iff.mp h
    dsimp only at h
    refine q_cV1 (idx := 119) (v := .int r14) (h1 := (q_K0, z15.1, z15.2, q_R0)) [.long l7, .long (Int32.toInt64 l2), .ref 128] 105 128 9 [.long (Int32.toInt64 l2), .long l7] [] rfl (by decide +kernel) (by decide +kernel) rfl (Nat.le_of_ble_eq_true rfl) rfl (by decide) (by decide +kernel) (by decide +kernel) (s_X10_isForm hc18) ?_
    refine q_if_eq (off := 14) (tgt := 118) (by decide +kernel) (by decide) (fun c104_2 => ?_) (fun c104_2 => ?_)
    · rw [if_pos c104_2] at h
      refine q_pick [0, 1, 2, 3, 4, 5] rfl ?_
      exact t_X10_proper_118 h k0 k1
    · rw [if_neg c104_2] at h
      refine q_blk2 (pc2 := 108) (ls2 := [(0, .ref 128), (2, .int l2), (3, .int l3), (4, .int l4), (5, .long l5), (7, .long l7)]) (st2 := [.ref 128]) (h2 := (q_K0, z15.1, z15.2, q_R0)) [(.aload_n 0, 0, 0, 0, 0, 0)] (by decide +kernel) rfl rfl ⟨trivial, trivial⟩ ?_
      obtain ⟨⟨r16, z17⟩, hc19, h⟩ := Option.bind_eq_some_iff.mp h
      dsimp only at h
      refine q_cV1 (idx := 177) (v := .int r16) (h1 := (q_K0, z17.1, z17.2, q_R0)) [.ref 128] 112 128 9 [] [] rfl (by decide +kernel) (by decide +kernel) rfl (Nat.le_of_ble_eq_true rfl) rfl (by decide) (by decide +kernel) (by decide +kernel) (s_X10_classHere hc19) ?_
      refine q_blk2 (pc2 := 112) (ls2 := [(0, .ref 128), (2, .int l2), (3, .int l3), (4, .int l4), (5, .long l5), (7, .long l7)]) (st2 := [.int l3, .int r16]) (h2 := (q_K0, z17.1, z17.2, q_R0)) [(.iload_n 3, 0, 0, 0, 0, 0)] (by decide +kernel) rfl rfl ⟨trivial, trivial⟩ ?_
      refine q_ic_ne (off := 6) (tgt := 118) (by decide +kernel) (by decide) (fun c112_3 => ?_) (fun c112_3 => ?_)
      · rw [if_neg c112_3] at h
        refine q_pick [0, 1, 2, 3, 4, 5] rfl ?_
        exact t_X10_proper_118 h k0 k1
      · rw [if_pos c112_3] at h
        refine q_blk2 (pc2 := 118) (ls2 := [(4, .int (l4 + 1)), (0, .ref 128), (2, .int l2), (3, .int l3), (5, .long l5), (7, .long l7)]) (st2 := []) (h2 := (q_K0, z17.1, z17.2, q_R0)) [(.iinc 4 1, 0, 0, 0, 1, 0)] (by decide +kernel) rfl rfl ⟨trivial, trivial⟩ ?_
        refine q_pick [1, 2, 3, 0, 4, 5] rfl ?_
        exact t_X10_proper_118 h k0 k1
def T_X10_proper_55 (z : q_Z) (l1 : Int32) (l2 : Int32) : Option (Int32 × q_Z) :=
  (F_X10_take (q_u2 z.1 128 2 0, z.2) l1).bind fun (_, z9) =>
    (F_X10_classHere z9).bind fun (r10, z11) =>
      (F_X10_abs z11 (Int32.toInt64 l2)).bind fun (r12, z13) =>
        (q_lp (B_X10_proper_88) q_fu (l2, r10, 0, 2 * r12, 0, z13)).bind fun ((w21, w22, w23, w24, w25, z20), tg) =>
          if tg = 0 then
            some (w23, z20)
          else none
set_option maxRecDepth 100000 in
set_option maxHeartbeats 4000000 in
theorem t_X10_proper_55 {z zR : q_Z} {l1 : Int32} {l2 : Int32} {rv : Int32} (h : T_X10_proper_55 z l1 l2 = some (rv, zR)) : q_Ex none 152 55 [(0, .ref 128), (1, .int l1), (2, .int l2)] [] (q_K0, z.1, z.2, q_R0) (some (.int rv)) (q_K0, zR.1, zR.2, q_R0) := by
  unfold T_X10_proper_55 at h
  refine q_blk2 (pc2 := 62) (ls2 := [(0, .ref 128), (1, .int l1), (2, .int l2)]) (st2 := [.int l1, .ref 128]) (h2 := (q_K0, q_u2 z.1 128 2 0, z.2, q_R0)) [(.aload_n 0, 0, 0, 0, 0, 0), (.iconst 0, 0, 0, 0, 0, 0), (.putfield 61, 0, 9, 2, 0, 0), (.aload_n 0, 0, 0, 0, 0, 0), (.iload_n 1, 0, 0, 0, 0, 0)] (by decide +kernel) rfl rfl ⟨trivial, trivial, ⟨rfl, rfl, rfl⟩, trivial, trivial, trivial⟩ ?_
  obtain ⟨⟨_, z9⟩, hc26, h⟩ := Option.bind_eq_some_iff.mp h
  dsimp only at h
  refine q_cV0 (idx := 166) (h1 := (q_K0, z9.1, z9.2, q_R0)) [.int l1, .ref 128] 103 128 9 [.int l1] [] rfl (by decide +kernel) (by decide +kernel) rfl (Nat.le_of_ble_eq_true rfl) rfl (by decide) (by decide +kernel) (by decide +kernel) (s_X10_take hc26) ?_
  refine q_blk2 (pc2 := 66) (ls2 := [(0, .ref 128), (1, .int l1), (2, .int l2)]) (st2 := [.ref 128]) (h2 := (q_K0, z9.1, z9.2, q_R0)) [(.aload_n 0, 0, 0, 0, 0, 0)] (by decide +kernel) rfl rfl ⟨trivial, trivial⟩ ?_
  obtain ⟨⟨r10, z11⟩, hc27, h⟩ := Option.bind_eq_some_iff.mp h
  dsimp only at h
  refine q_cV1 (idx := 177) (v := .int r10) (h1 := (q_K0, z11.1, z11.2, q_R0)) [.ref 128] 112 128 9 [] [] rfl (by decide +kernel) (by decide +kernel) rfl (Nat.le_of_ble_eq_true rfl) rfl (by decide) (by decide +kernel) (by decide +kernel) (s_X10_classHere hc27) ?_
  refine q_blk2 (pc2 := 79) (ls2 := [(4, .int 0), (3, .int r10), (0, .ref 128), (1, .int l1), (2, .int l2)]) (st2 := [.long (Int32.toInt64 l2), .ref 128, .long 2]) (h2 := (q_K0, z11.1, z11.2, q_R0)) [(.istore_n 3, 0, 0, 0, 0, 0), (.iconst 0, 0, 0, 0, 0, 0), (.istore 4, 0, 0, 0, 0, 0), (.ldc2_w 70, 0, 0, 0, 0, 2), (.aload_n 0, 0, 0, 0, 0, 0), (.iload_n 2, 0, 0, 0, 0, 0), (.i2l, 0, 0, 0, 0, 0)] (by decide +kernel) rfl rfl ⟨trivial, trivial, trivial, trivial, trivial, trivial, trivial, trivial⟩ ?_
  obtain ⟨⟨r12, z13⟩, hc28, h⟩ := Option.bind_eq_some_iff.mp h
  dsimp only at h
  refine q_cV1 (idx := 64) (v := .long r12) (h1 := (q_K0, z13.1, z13.2, q_R0)) [.long (Int32.toInt64 l2), .ref 128, .long 2] 100 128 9 [.long (Int32.toInt64 l2)] [.long 2] rfl (by decide +kernel) (by decide +kernel) rfl (Nat.le_of_ble_eq_true rfl) rfl (by decide) (by decide +kernel) (by decide +kernel) (s_X10_abs hc28) ?_
  refine q_blk2 (pc2 := 88) (ls2 := [(7, .long 0), (5, .long (2 * r12)), (4, .int 0), (3, .int r10), (0, .ref 128), (1, .int l1), (2, .int l2)]) (st2 := []) (h2 := (q_K0, z13.1, z13.2, q_R0)) [(.lmul, 0, 0, 0, 0, 0), (.lstore 5, 0, 0, 0, 0, 0), (.lconst 0, 0, 0, 0, 0, 0), (.lstore 7, 0, 0, 0, 0, 0)] (by decide +kernel) rfl rfl ⟨trivial, trivial, trivial, trivial, trivial⟩ ?_
  obtain ⟨⟨⟨w21, w22, w23, w24, w25, z20⟩, tg30⟩, hl29, h⟩ := Option.bind_eq_some_iff.mp h
  dsimp only at h
  refine q_pick [4, 6, 3, 2, 1, 0] rfl ?_
  refine q_lp_ok (P := fun s => q_Ex _ 152 88 [(0, .ref 128), (2, .int s.1), (3, .int s.2.1), (4, .int s.2.2.1), (5, .long s.2.2.2.1), (7, .long s.2.2.2.2.1)] [] (q_K0, s.2.2.2.2.2.1, s.2.2.2.2.2.2, q_R0) _ _) (X := fun u s => (u = 0 → q_Ex _ 152 127 [(0, .ref 128), (2, .int s.1), (3, .int s.2.1), (4, .int s.2.2.1), (5, .long s.2.2.2.1), (7, .long s.2.2.2.2.1)] [] (q_K0, s.2.2.2.2.2.1, s.2.2.2.2.2.2, q_R0) _ _)) (fun s s2 t hh k0 kx => b_X10_proper_88 hh k0 (fun e => (kx 0 e) rfl)) hl29 ?_
  · intro e_tg30
    subst e_tg30
    rw [if_pos rfl] at h
    show q_Ex _ 152 127 [(0, .ref 128), (2, .int w21), (3, .int w22), (4, .int w23), (5, .long w24), (7, .long w25)] [] (q_K0, z20.1, z20.2, q_R0) _ _
    refine q_blk2 (pc2 := 129) (ls2 := [(0, .ref 128), (2, .int w21), (3, .int w22), (4, .int w23), (5, .long w24), (7, .long w25)]) (st2 := [.int w23]) (h2 := (q_K0, z20.1, z20.2, q_R0)) [(.iload 4, 0, 0, 0, 0, 0)] (by decide +kernel) rfl rfl ⟨trivial, trivial⟩ ?_
    cases h
    exact q_iret .int rfl rfl (by decide +kernel)
/-- RootFormsModel.proper(II)I -/
def F_X10_proper (z : q_Z) (l1 : Int32) (l2 : Int32) : Option (Int32 × q_Z) :=
  (F_X10_isPlace (q_u2 z.1 128 3 0, z.2) l1).bind fun (r1, z2) =>
    if r1 = (0 : Int32) then
      (F_X10_no z2 2).bind fun (r31, z32) =>
        some (r31, z32)
    else
      (F_X10_in z2 (Int32.toInt64 l2) (-20000) 20000).bind fun (r3, z4) =>
        if r3 = (0 : Int32) then
          T_X10_proper_49 z4
        else
          if l2 = (0 : Int32) then
            T_X10_proper_49 z4
          else
            if (0 : Int32) ≤ (z4.1 128 0) then
              T_X10_proper_55 z4 l1 l2
            else
              if (0 : Int32) ≤ l2 then
                T_X10_proper_55 z4 l1 l2
              else
                T_X10_proper_49 z4
set_option maxRecDepth 100000 in
set_option maxHeartbeats 4000000 in
theorem s_X10_proper {z zR : q_Z} {l1 : Int32} {l2 : Int32} {rv : Int32} (h : F_X10_proper z l1 l2 = some (rv, zR)) : q_Ca 152 [.ref 128, .int l1, .int l2] (q_K0, z.1, z.2, q_R0) (some (.int rv)) (q_K0, zR.1, zR.2, q_R0) := by
  refine q_Ca_of (by decide) (Nat.le_of_ble_eq_true rfl) ?_
  show q_Ex none 152 0 [(0, .ref 128), (1, .int l1), (2, .int l2)] [] (q_K0, z.1, z.2, q_R0) _ _
  unfold F_X10_proper at h
  refine q_blk2 (pc2 := 7) (ls2 := [(0, .ref 128), (1, .int l1), (2, .int l2)]) (st2 := [.int l1, .ref 128]) (h2 := (q_K0, q_u2 z.1 128 3 0, z.2, q_R0)) [(.aload_n 0, 0, 0, 0, 0, 0), (.iconst 0, 0, 0, 0, 0, 0), (.putfield 57, 0, 9, 3, 0, 0), (.aload_n 0, 0, 0, 0, 0, 0), (.iload_n 1, 0, 0, 0, 0, 0)] (by decide +kernel) rfl rfl ⟨trivial, trivial, ⟨rfl, rfl, rfl⟩, trivial, trivial, trivial⟩ ?_
  obtain ⟨⟨r1, z2⟩, hc33, h⟩ := Option.bind_eq_some_iff.mp h
  dsimp only at h
  refine q_cV1 (idx := 162) (v := .int r1) (h1 := (q_K0, z2.1, z2.2, q_R0)) [.int l1, .ref 128] 116 128 9 [.int l1] [] rfl (by decide +kernel) (by decide +kernel) rfl (Nat.le_of_ble_eq_true rfl) rfl (by decide) (by decide +kernel) (by decide +kernel) (s_X10_isPlace hc33) ?_
  refine q_if_ne (off := 9) (tgt := 19) (by decide +kernel) (by decide) (fun c10_1 => ?_) (fun c10_1 => ?_)
  · rw [if_neg c10_1] at h
    refine q_blk2 (pc2 := 28) (ls2 := [(0, .ref 128), (1, .int l1), (2, .int l2)]) (st2 := [.long 20000, .long (-20000), .long (Int32.toInt64 l2), .ref 128]) (h2 := (q_K0, z2.1, z2.2, q_R0)) [(.aload_n 0, 0, 0, 0, 0, 0), (.iload_n 2, 0, 0, 0, 0, 0), (.i2l, 0, 0, 0, 0, 0), (.ldc2_w 273, 0, 0, 0, 0, (-20000)), (.ldc2_w 275, 0, 0, 0, 0, 20000)] (by decide +kernel) rfl rfl ⟨trivial, trivial, trivial, trivial, trivial, trivial⟩ ?_
    obtain ⟨⟨r3, z4⟩, hc34, h⟩ := Option.bind_eq_some_iff.mp h
    dsimp only at h
    refine q_cV1 (idx := 138) (v := .int r3) (h1 := (q_K0, z4.1, z4.2, q_R0)) [.long 20000, .long (-20000), .long (Int32.toInt64 l2), .ref 128] 99 128 9 [.long (Int32.toInt64 l2), .long (-20000), .long 20000] [] rfl (by decide +kernel) (by decide +kernel) rfl (Nat.le_of_ble_eq_true rfl) rfl (by decide) (by decide +kernel) (by decide +kernel) (s_X10_in hc34) ?_
    refine q_if_eq (off := 18) (tgt := 49) (by decide +kernel) (by decide) (fun c31_2 => ?_) (fun c31_2 => ?_)
    · rw [if_pos c31_2] at h
      refine q_pick [0] rfl ?_
      exact t_X10_proper_49 h
    · rw [if_neg c31_2] at h
      refine q_blk2 (pc2 := 35) (ls2 := [(0, .ref 128), (1, .int l1), (2, .int l2)]) (st2 := [.int l2]) (h2 := (q_K0, z4.1, z4.2, q_R0)) [(.iload_n 2, 0, 0, 0, 0, 0)] (by decide +kernel) rfl rfl ⟨trivial, trivial⟩ ?_
      refine q_if_eq (off := 14) (tgt := 49) (by decide +kernel) (by decide) (fun c35_3 => ?_) (fun c35_3 => ?_)
      · rw [if_pos c35_3] at h
        refine q_pick [0] rfl ?_
        exact t_X10_proper_49 h
      · rw [if_neg c35_3] at h
        refine q_blk2 (pc2 := 42) (ls2 := [(0, .ref 128), (1, .int l1), (2, .int l2)]) (st2 := [.int (z4.1 128 0)]) (h2 := (q_K0, z4.1, z4.2, q_R0)) [(.aload_n 0, 0, 0, 0, 0, 0), (.getfield 82, 0, 9, 0, 0, 0)] (by decide +kernel) rfl rfl ⟨trivial, rfl, trivial⟩ ?_
        refine q_if_ge (off := 13) (tgt := 55) (by decide +kernel) (by decide) (fun c42_4 => ?_) (fun c42_4 => ?_)
        · rw [if_pos c42_4] at h
          refine q_pick [0, 1, 2] rfl ?_
          exact t_X10_proper_55 h
        · rw [if_neg c42_4] at h
          refine q_blk2 (pc2 := 46) (ls2 := [(0, .ref 128), (1, .int l1), (2, .int l2)]) (st2 := [.int l2]) (h2 := (q_K0, z4.1, z4.2, q_R0)) [(.iload_n 2, 0, 0, 0, 0, 0)] (by decide +kernel) rfl rfl ⟨trivial, trivial⟩ ?_
          refine q_if_ge (off := 9) (tgt := 55) (by decide +kernel) (by decide) (fun c46_5 => ?_) (fun c46_5 => ?_)
          · rw [if_pos c46_5] at h
            refine q_pick [0, 1, 2] rfl ?_
            exact t_X10_proper_55 h
          · rw [if_neg c46_5] at h
            refine q_pick [0] rfl ?_
            exact t_X10_proper_49 h
  · rw [if_pos c10_1] at h
    refine q_blk2 (pc2 := 15) (ls2 := [(0, .ref 128), (1, .int l1), (2, .int l2)]) (st2 := [.int 2, .ref 128]) (h2 := (q_K0, z2.1, z2.2, q_R0)) [(.aload_n 0, 0, 0, 0, 0, 0), (.iconst 2, 0, 0, 0, 2, 0)] (by decide +kernel) rfl rfl ⟨trivial, trivial, trivial⟩ ?_
    obtain ⟨⟨r31, z32⟩, hc35, h⟩ := Option.bind_eq_some_iff.mp h
    dsimp only at h
    refine q_cV1 (idx := 152) (v := .int r31) (h1 := (q_K0, z32.1, z32.2, q_R0)) [.int 2, .ref 128] 98 128 9 [.int 2] [] rfl (by decide +kernel) (by decide +kernel) rfl (Nat.le_of_ble_eq_true rfl) rfl (by decide) (by decide +kernel) (by decide +kernel) (s_X10_no hc35) ?_
    cases h
    exact q_iret .int rfl rfl (by decide +kernel)
def T_X10_squares_87 (z : q_Z) (l1 : Int32) (l2 : Int32) (l3 : Int64) : Option ((Int32 × Int32 × Int64 × q_Z) × Nat) :=
  some ((l1, l2, l3 + 1, z), 0)
set_option maxRecDepth 100000 in
set_option maxHeartbeats 4000000 in
theorem t_X10_squares_87 {z : q_Z} {l1 : Int32} {l2 : Int32} {l3 : Int64} {s2 : Int32 × Int32 × Int64 × q_Z} {t : Nat} {r : Option Value} {h2 : q_H} (h : T_X10_squares_87 z l1 l2 l3 = some (s2, t)) (k0 : t = 0 → q_Ex none 153 33 [(0, .ref 128), (1, .int s2.1), (2, .int s2.2.1), (3, .long s2.2.2.1)] [] (q_K0, s2.2.2.2.1, s2.2.2.2.2, q_R0) r h2) (k1 : t = 1 → q_Ex none 153 94 [(0, .ref 128), (1, .int s2.1), (2, .int s2.2.1), (3, .long s2.2.2.1)] [] (q_K0, s2.2.2.2.1, s2.2.2.2.2, q_R0) r h2) : q_Ex none 153 87 [(0, .ref 128), (1, .int l1), (2, .int l2), (3, .long l3)] [] (q_K0, z.1, z.2, q_R0) r h2 := by
  unfold T_X10_squares_87 at h
  refine q_blk2 (pc2 := 91) (ls2 := [(3, .long (l3 + 1)), (0, .ref 128), (1, .int l1), (2, .int l2)]) (st2 := []) (h2 := (q_K0, z.1, z.2, q_R0)) [(.lload_n 3, 0, 0, 0, 0, 0), (.lconst 1, 0, 0, 0, 0, 1), (.ladd, 0, 0, 0, 0, 0), (.lstore_n 3, 0, 0, 0, 0, 0)] (by decide +kernel) rfl rfl ⟨trivial, trivial, trivial, trivial, trivial⟩ ?_
  refine q_goto (off := -58) (tgt := 33) (by decide +kernel) (by decide) ?_
  cases h
  refine q_pick [1, 2, 3, 0] rfl ?_
  exact k0 rfl
def B_X10_squares_33 : Int32 × Int32 × Int64 × q_Z → Option ((Int32 × Int32 × Int64 × q_Z) × Nat) := fun (l1, l2, l3, z) =>
  if (Int32.toInt64 l1) < ((2 * l3) * l3) then
    some ((l1, l2, l3, z), 1)
  else
    (F_X10_root0 z ((Int32.toInt64 l1) - (l3 * l3))).bind fun (r3, z4) =>
      if (r3 * r3) = ((Int32.toInt64 l1) - (l3 * l3)) then
        (F_X10_put z4 l2 l3 r3).bind fun (_, z6) =>
          T_X10_squares_87 z6 l1 (l2 + 1) l3
      else
        T_X10_squares_87 z4 l1 l2 l3
set_option maxRecDepth 100000 in
set_option maxHeartbeats 4000000 in
theorem b_X10_squares_33 {s s2 : Int32 × Int32 × Int64 × q_Z} {t : Nat} {r : Option Value} {h2 : q_H} (h : B_X10_squares_33 s = some (s2, t)) (k0 : t = 0 → q_Ex none 153 33 [(0, .ref 128), (1, .int s2.1), (2, .int s2.2.1), (3, .long s2.2.2.1)] [] (q_K0, s2.2.2.2.1, s2.2.2.2.2, q_R0) r h2) (k1 : t = 1 → q_Ex none 153 94 [(0, .ref 128), (1, .int s2.1), (2, .int s2.2.1), (3, .long s2.2.2.1)] [] (q_K0, s2.2.2.2.1, s2.2.2.2.2, q_R0) r h2) : q_Ex none 153 33 [(0, .ref 128), (1, .int s.1), (2, .int s.2.1), (3, .long s.2.2.1)] [] (q_K0, s.2.2.2.1, s.2.2.2.2, q_R0) r h2 := by
  unfold B_X10_squares_33 at h
  obtain ⟨l1, l2, l3, z⟩ := s
  dsimp only at h
  show q_Ex none 153 33 [(0, .ref 128), (1, .int l1), (2, .int l2), (3, .long l3)] [] (q_K0, z.1, z.2, q_R0) r h2
  refine q_blk2 (pc2 := 42) (ls2 := [(0, .ref 128), (1, .int l1), (2, .int l2), (3, .long l3)]) (st2 := [.long (Int32.toInt64 l1), .long ((2 * l3) * l3)]) (h2 := (q_K0, z.1, z.2, q_R0)) [(.ldc2_w 70, 0, 0, 0, 0, 2), (.lload_n 3, 0, 0, 0, 0, 0), (.lmul, 0, 0, 0, 0, 0), (.lload_n 3, 0, 0, 0, 0, 0), (.lmul, 0, 0, 0, 0, 0), (.iload_n 1, 0, 0, 0, 0, 0), (.i2l, 0, 0, 0, 0, 0)] (by decide +kernel) rfl rfl ⟨trivial, trivial, trivial, trivial, trivial, trivial, trivial, trivial⟩ ?_
  refine q_lc_gt (off := 51) (tgt := 94) (by decide +kernel) (by decide +kernel) (by decide) (fun c42_1 => ?_) (fun c42_1 => ?_)
  · rw [if_pos c42_1] at h
    cases h
    refine q_pick [0, 1, 2, 3] rfl ?_
    exact k1 rfl
  · rw [if_neg c42_1] at h
    refine q_blk2 (pc2 := 53) (ls2 := [(0, .ref 128), (1, .int l1), (2, .int l2), (3, .long l3)]) (st2 := [.long ((Int32.toInt64 l1) - (l3 * l3)), .ref 128]) (h2 := (q_K0, z.1, z.2, q_R0)) [(.aload_n 0, 0, 0, 0, 0, 0), (.iload_n 1, 0, 0, 0, 0, 0), (.i2l, 0, 0, 0, 0, 0), (.lload_n 3, 0, 0, 0, 0, 0), (.lload_n 3, 0, 0, 0, 0, 0), (.lmul, 0, 0, 0, 0, 0), (.lsub, 0, 0, 0, 0, 0)] (by decide +kernel) rfl rfl ⟨trivial, trivial, trivial, trivial, trivial, trivial, trivial, trivial⟩ ?_
    obtain ⟨⟨r3, z4⟩, hc7, h⟩ := Option.bind_eq_some_iff.mp h
    dsimp only at h
    refine q_cV1 (idx := 116) (v := .long r3) (h1 := (q_K0, z4.1, z4.2, q_R0)) [.long ((Int32.toInt64 l1) - (l3 * l3)), .ref 128] 102 128 9 [.long ((Int32.toInt64 l1) - (l3 * l3))] [] rfl (by decide +kernel) (by decide +kernel) rfl (Nat.le_of_ble_eq_true rfl) rfl (by decide) (by decide +kernel) (by decide +kernel) (s_X10_root0 hc7) ?_
    refine q_blk2 (pc2 := 69) (ls2 := [(5, .long r3), (0, .ref 128), (1, .int l1), (2, .int l2), (3, .long l3)]) (st2 := [.long ((Int32.toInt64 l1) - (l3 * l3)), .long (r3 * r3)]) (h2 := (q_K0, z4.1, z4.2, q_R0)) [(.lstore 5, 0, 0, 0, 0, 0), (.lload 5, 0, 0, 0, 0, 0), (.lload 5, 0, 0, 0, 0, 0), (.lmul, 0, 0, 0, 0, 0), (.iload_n 1, 0, 0, 0, 0, 0), (.i2l, 0, 0, 0, 0, 0), (.lload_n 3, 0, 0, 0, 0, 0), (.lload_n 3, 0, 0, 0, 0, 0), (.lmul, 0, 0, 0, 0, 0), (.lsub, 0, 0, 0, 0, 0)] (by decide +kernel) rfl rfl ⟨trivial, trivial, trivial, trivial, trivial, trivial, trivial, trivial, trivial, trivial, trivial⟩ ?_
    refine q_lc_eq (off := 6) (tgt := 76) (by decide +kernel) (by decide +kernel) (by decide) (fun c69_2 => ?_) (fun c69_2 => ?_)
    · rw [if_pos c69_2] at h
      refine q_blk2 (pc2 := 81) (ls2 := [(5, .long r3), (0, .ref 128), (1, .int l1), (2, .int l2), (3, .long l3)]) (st2 := [.long r3, .long l3, .int l2, .ref 128]) (h2 := (q_K0, z4.1, z4.2, q_R0)) [(.aload_n 0, 0, 0, 0, 0, 0), (.iload_n 2, 0, 0, 0, 0, 0), (.lload_n 3, 0, 0, 0, 0, 0), (.lload 5, 0, 0, 0, 0, 0)] (by decide +kernel) rfl rfl ⟨trivial, trivial, trivial, trivial, trivial⟩ ?_
      obtain ⟨⟨_, z6⟩, hc8, h⟩ := Option.bind_eq_some_iff.mp h
      dsimp only at h
      refine q_cV0 (idx := 266) (h1 := (q_K0, z6.1, z6.2, q_R0)) [.long r3, .long l3, .int l2, .ref 128] 150 128 9 [.int l2, .long l3, .long r3] [] rfl (by decide +kernel) (by decide +kernel) rfl (Nat.le_of_ble_eq_true rfl) rfl (by decide) (by decide +kernel) (by decide +kernel) (s_X10_put hc8) ?_
      refine q_blk2 (pc2 := 87) (ls2 := [(2, .int (l2 + 1)), (5, .long r3), (0, .ref 128), (1, .int l1), (3, .long l3)]) (st2 := []) (h2 := (q_K0, z6.1, z6.2, q_R0)) [(.iinc 2 1, 0, 0, 0, 1, 0)] (by decide +kernel) rfl rfl ⟨trivial, trivial⟩ ?_
      refine q_pick [2, 3, 0, 4] rfl ?_
      exact t_X10_squares_87 h k0 k1
    · rw [if_neg c69_2] at h
      refine q_goto (off := 14) (tgt := 87) (by decide +kernel) (by decide) ?_
      refine q_pick [1, 2, 3, 4] rfl ?_
      exact t_X10_squares_87 h k0 k1
def T_X10_squares_109 (z : q_Z) (l2 : Int32) (t0 : Int32) : Option (Int32 × q_Z) :=
  some (l2, (q_u2 z.1 128 11 t0, z.2))
set_option maxRecDepth 100000 in
set_option maxHeartbeats 4000000 in
theorem t_X10_squares_109 {z zR : q_Z} {l2 : Int32} {t0 : Int32} {rv : Int32} (h : T_X10_squares_109 z l2 t0 = some (rv, zR)) : q_Ex none 153 109 [(2, .int l2)] [.int t0, .ref 128] (q_K0, z.1, z.2, q_R0) (some (.int rv)) (q_K0, zR.1, zR.2, q_R0) := by
  unfold T_X10_squares_109 at h
  refine q_blk2 (pc2 := 113) (ls2 := [(2, .int l2)]) (st2 := [.int l2]) (h2 := (q_K0, q_u2 z.1 128 11 t0, z.2, q_R0)) [(.putfield 270, 0, 9, 11, 0, 0), (.iload_n 2, 0, 0, 0, 0, 0)] (by decide +kernel) rfl rfl ⟨⟨rfl, rfl, rfl⟩, trivial, trivial⟩ ?_
  cases h
  exact q_iret .int rfl rfl (by decide +kernel)
/-- RootFormsModel.squares(I)I -/
def F_X10_squares (z : q_Z) (l1 : Int32) : Option (Int32 × q_Z) :=
  (F_X10_in (q_u2 z.1 128 3 0, z.2) (Int32.toInt64 l1) 0 1000000000).bind fun (r1, z2) =>
    if r1 = (0 : Int32) then
      (F_X10_no z2 1).bind fun (r13, z14) =>
        some (r13, z14)
    else
      (q_lp (B_X10_squares_33) q_fu (l1, 0, 0, (q_u2 z2.1 128 2 0, z2.2))).bind fun ((w10, w11, w12, z9), tg) =>
        if tg = 0 then
          if (200 : Int32) ≤ w11 then
            T_X10_squares_109 z9 w11 200
          else
            T_X10_squares_109 z9 w11 w11
        else none
set_option maxRecDepth 100000 in
set_option maxHeartbeats 4000000 in
theorem s_X10_squares {z zR : q_Z} {l1 : Int32} {rv : Int32} (h : F_X10_squares z l1 = some (rv, zR)) : q_Ca 153 [.ref 128, .int l1] (q_K0, z.1, z.2, q_R0) (some (.int rv)) (q_K0, zR.1, zR.2, q_R0) := by
  refine q_Ca_of (by decide) (Nat.le_of_ble_eq_true rfl) ?_
  show q_Ex none 153 0 [(0, .ref 128), (1, .int l1)] [] (q_K0, z.1, z.2, q_R0) _ _
  unfold F_X10_squares at h
  refine q_blk2 (pc2 := 12) (ls2 := [(0, .ref 128), (1, .int l1)]) (st2 := [.long 1000000000, .long 0, .long (Int32.toInt64 l1), .ref 128]) (h2 := (q_K0, q_u2 z.1 128 3 0, z.2, q_R0)) [(.aload_n 0, 0, 0, 0, 0, 0), (.iconst 0, 0, 0, 0, 0, 0), (.putfield 57, 0, 9, 3, 0, 0), (.aload_n 0, 0, 0, 0, 0, 0), (.iload_n 1, 0, 0, 0, 0, 0), (.i2l, 0, 0, 0, 0, 0), (.lconst 0, 0, 0, 0, 0, 0), (.ldc2_w 277, 0, 0, 0, 0, 1000000000)] (by decide +kernel) rfl rfl ⟨trivial, trivial, ⟨rfl, rfl, rfl⟩, trivial, trivial, trivial, trivial, trivial, trivial⟩ ?_
  obtain ⟨⟨r1, z2⟩, hc15, h⟩ := Option.bind_eq_some_iff.mp h
  dsimp only at h
  refine q_cV1 (idx := 138) (v := .int r1) (h1 := (q_K0, z2.1, z2.2, q_R0)) [.long 1000000000, .long 0, .long (Int32.toInt64 l1), .ref 128] 99 128 9 [.long (Int32.toInt64 l1), .long 0, .long 1000000000] [] rfl (by decide +kernel) (by decide +kernel) rfl (Nat.le_of_ble_eq_true rfl) rfl (by decide) (by decide +kernel) (by decide +kernel) (s_X10_in hc15) ?_
  refine q_if_ne (off := 9) (tgt := 24) (by decide +kernel) (by decide) (fun c15_1 => ?_) (fun c15_1 => ?_)
  · rw [if_neg c15_1] at h
    refine q_blk2 (pc2 := 33) (ls2 := [(3, .long 0), (2, .int 0), (0, .ref 128), (1, .int l1)]) (st2 := []) (h2 := (q_K0, q_u2 z2.1 128 2 0, z2.2, q_R0)) [(.aload_n 0, 0, 0, 0, 0, 0), (.iconst 0, 0, 0, 0, 0, 0), (.putfield 61, 0, 9, 2, 0, 0), (.iconst 0, 0, 0, 0, 0, 0), (.istore_n 2, 0, 0, 0, 0, 0), (.lconst 0, 0, 0, 0, 0, 0), (.lstore_n 3, 0, 0, 0, 0, 0)] (by decide +kernel) rfl rfl ⟨trivial, trivial, ⟨rfl, rfl, rfl⟩, trivial, trivial, trivial, trivial, trivial⟩ ?_
    obtain ⟨⟨⟨w10, w11, w12, z9⟩, tg17⟩, hl16, h⟩ := Option.bind_eq_some_iff.mp h
    dsimp only at h
    refine q_pick [2, 3, 1, 0] rfl ?_
    refine q_lp_ok (P := fun s => q_Ex _ 153 33 [(0, .ref 128), (1, .int s.1), (2, .int s.2.1), (3, .long s.2.2.1)] [] (q_K0, s.2.2.2.1, s.2.2.2.2, q_R0) _ _) (X := fun u s => (u = 0 → q_Ex _ 153 94 [(0, .ref 128), (1, .int s.1), (2, .int s.2.1), (3, .long s.2.2.1)] [] (q_K0, s.2.2.2.1, s.2.2.2.2, q_R0) _ _)) (fun s s2 t hh k0 kx => b_X10_squares_33 hh k0 (fun e => (kx 0 e) rfl)) hl16 ?_
    · intro e_tg17
      subst e_tg17
      rw [if_pos rfl] at h
      show q_Ex _ 153 94 [(0, .ref 128), (1, .int w10), (2, .int w11), (3, .long w12)] [] (q_K0, z9.1, z9.2, q_R0) _ _
      refine q_blk2 (pc2 := 99) (ls2 := [(0, .ref 128), (1, .int w10), (2, .int w11), (3, .long w12)]) (st2 := [.int 200, .int w11, .ref 128]) (h2 := (q_K0, z9.1, z9.2, q_R0)) [(.aload_n 0, 0, 0, 0, 0, 0), (.iload_n 2, 0, 0, 0, 0, 0), (.sipush 200, 0, 0, 0, 200, 0)] (by decide +kernel) rfl rfl ⟨trivial, trivial, trivial, trivial⟩ ?_
      refine q_ic_ge (off := 7) (tgt := 106) (by decide +kernel) (by decide) (fun c99_2 => ?_) (fun c99_2 => ?_)
      · rw [if_pos c99_2] at h
        refine q_blk2 (pc2 := 109) (ls2 := [(0, .ref 128), (1, .int w10), (2, .int w11), (3, .long w12)]) (st2 := [.int 200, .ref 128]) (h2 := (q_K0, z9.1, z9.2, q_R0)) [(.sipush 200, 0, 0, 0, 200, 0)] (by decide +kernel) rfl rfl ⟨trivial, trivial⟩ ?_
        refine q_pick [2] rfl ?_
        exact t_X10_squares_109 h
      · rw [if_neg c99_2] at h
        refine q_blk2 (pc2 := 103) (ls2 := [(0, .ref 128), (1, .int w10), (2, .int w11), (3, .long w12)]) (st2 := [.int w11, .ref 128]) (h2 := (q_K0, z9.1, z9.2, q_R0)) [(.iload_n 2, 0, 0, 0, 0, 0)] (by decide +kernel) rfl rfl ⟨trivial, trivial⟩ ?_
        refine q_goto (off := 6) (tgt := 109) (by decide +kernel) (by decide) ?_
        refine q_pick [2] rfl ?_
        exact t_X10_squares_109 h
  · rw [if_pos c15_1] at h
    refine q_blk2 (pc2 := 20) (ls2 := [(0, .ref 128), (1, .int l1)]) (st2 := [.int 1, .ref 128]) (h2 := (q_K0, z2.1, z2.2, q_R0)) [(.aload_n 0, 0, 0, 0, 0, 0), (.iconst 1, 0, 0, 0, 1, 0)] (by decide +kernel) rfl rfl ⟨trivial, trivial, trivial⟩ ?_
    obtain ⟨⟨r13, z14⟩, hc18, h⟩ := Option.bind_eq_some_iff.mp h
    dsimp only at h
    refine q_cV1 (idx := 152) (v := .int r13) (h1 := (q_K0, z14.1, z14.2, q_R0)) [.int 1, .ref 128] 98 128 9 [.int 1] [] rfl (by decide +kernel) (by decide +kernel) rfl (Nat.le_of_ble_eq_true rfl) rfl (by decide) (by decide +kernel) (by decide +kernel) (s_X10_no hc18) ?_
    cases h
    exact q_iret .int rfl rfl (by decide +kernel)
/-- RootFormsModel.pair(IZ)I -/
def F_X10_pair (z : q_Z) (l1 : Int32) (l2 : Int32) : Option (Int32 × q_Z) :=
  (F_X10_in (q_u2 z.1 128 3 0, z.2) (Int32.toInt64 l1) 0 (Int32.toInt64 ((z.1 128 11) - 1))).bind fun (r1, z2) =>
    if r1 = (0 : Int32) then
      some ((-2147483648), z2)
    else
      if l2 = (0 : Int32) then
        if 0 ≤ Int32.toInt l1 ∧ Int32.toInt l1 < 200 then
          some (z2.1 132 (Int32.toNatClampNeg l1), z2)
        else none
      else
        if 0 ≤ Int32.toInt l1 ∧ Int32.toInt l1 < 200 then
          some (z2.1 133 (Int32.toNatClampNeg l1), z2)
        else none
set_option maxRecDepth 100000 in
set_option maxHeartbeats 4000000 in
theorem s_X10_pair {z zR : q_Z} {l1 : Int32} {l2 : Int32} {rv : Int32} (h : F_X10_pair z l1 l2 = some (rv, zR)) : q_Ca 154 [.ref 128, .int l1, .int l2] (q_K0, z.1, z.2, q_R0) (some (.int rv)) (q_K0, zR.1, zR.2, q_R0) := by
  refine q_Ca_of (by decide) (Nat.le_of_ble_eq_true rfl) ?_
  show q_Ex none 154 0 [(0, .ref 128), (1, .int l1), (2, .int l2)] [] (q_K0, z.1, z.2, q_R0) _ _
  unfold F_X10_pair at h
  refine q_blk2 (pc2 := 16) (ls2 := [(0, .ref 128), (1, .int l1), (2, .int l2)]) (st2 := [.long (Int32.toInt64 ((z.1 128 11) - 1)), .long 0, .long (Int32.toInt64 l1), .ref 128]) (h2 := (q_K0, q_u2 z.1 128 3 0, z.2, q_R0)) [(.aload_n 0, 0, 0, 0, 0, 0), (.iconst 0, 0, 0, 0, 0, 0), (.putfield 57, 0, 9, 3, 0, 0), (.aload_n 0, 0, 0, 0, 0, 0), (.iload_n 1, 0, 0, 0, 0, 0), (.i2l, 0, 0, 0, 0, 0), (.lconst 0, 0, 0, 0, 0, 0), (.aload_n 0, 0, 0, 0, 0, 0), (.getfield 270, 0, 9, 11, 0, 0), (.iconst 1, 0, 0, 0, 1, 0), (.isub, 0, 0, 0, 0, 0), (.i2l, 0, 0, 0, 0, 0)] (by decide +kernel) rfl rfl ⟨trivial, trivial, ⟨rfl, rfl, rfl⟩, trivial, trivial, trivial, trivial, trivial, rfl, trivial, trivial, trivial, trivial⟩ ?_
  obtain ⟨⟨r1, z2⟩, hc5, h⟩ := Option.bind_eq_some_iff.mp h
  dsimp only at h
  refine q_cV1 (idx := 138) (v := .int r1) (h1 := (q_K0, z2.1, z2.2, q_R0)) [.long (Int32.toInt64 ((z.1 128 11) - 1)), .long 0, .long (Int32.toInt64 l1), .ref 128] 99 128 9 [.long (Int32.toInt64 l1), .long 0, .long (Int32.toInt64 ((z.1 128 11) - 1))] [] rfl (by decide +kernel) (by decide +kernel) rfl (Nat.le_of_ble_eq_true rfl) rfl (by decide) (by decide +kernel) (by decide +kernel) (s_X10_in hc5) ?_
  refine q_if_eq (off := 25) (tgt := 44) (by decide +kernel) (by decide) (fun c19_1 => ?_) (fun c19_1 => ?_)
  · rw [if_pos c19_1] at h
    refine q_blk2 (pc2 := 47) (ls2 := [(0, .ref 128), (1, .int l1), (2, .int l2)]) (st2 := [.int (-2147483648)]) (h2 := (q_K0, z2.1, z2.2, q_R0)) [(.ldc_w 279, 0, 0, 0, (-2147483648), 0)] (by decide +kernel) rfl rfl ⟨trivial, trivial⟩ ?_
    cases h
    exact q_iret .int rfl rfl (by decide +kernel)
  · rw [if_neg c19_1] at h
    refine q_blk2 (pc2 := 23) (ls2 := [(0, .ref 128), (1, .int l1), (2, .int l2)]) (st2 := [.int l2]) (h2 := (q_K0, z2.1, z2.2, q_R0)) [(.iload_n 2, 0, 0, 0, 0, 0)] (by decide +kernel) rfl rfl ⟨trivial, trivial⟩ ?_
    refine q_if_eq (off := 12) (tgt := 35) (by decide +kernel) (by decide) (fun c23_2 => ?_) (fun c23_2 => ?_)
    · rw [if_pos c23_2] at h
      have b3 : 0 ≤ Int32.toInt l1 ∧ Int32.toInt l1 < 200 := by
        by_cases q : 0 ≤ Int32.toInt l1 ∧ Int32.toInt l1 < 200
        · exact q
        · rw [if_neg q] at h; cases h
      rw [if_pos b3] at h
      refine q_blk2 (pc2 := 41) (ls2 := [(0, .ref 128), (1, .int l1), (2, .int l2)]) (st2 := [.int (z2.1 132 (Int32.toNatClampNeg l1))]) (h2 := (q_K0, z2.1, z2.2, q_R0)) [(.aload_n 0, 0, 0, 0, 0, 0), (.getfield 19, 0, 9, 9, 0, 0), (.iload_n 1, 0, 0, 0, 0, 0), (.iaload, 0, 0, 0, 0, 0)] (by decide +kernel) rfl rfl ⟨trivial, rfl, trivial, ⟨_, rfl, vp_in_iff.mpr b3⟩, trivial⟩ ?_
      refine q_goto (off := 6) (tgt := 47) (by decide +kernel) (by decide) ?_
      cases h
      exact q_iret .int rfl rfl (by decide +kernel)
    · rw [if_neg c23_2] at h
      have b4 : 0 ≤ Int32.toInt l1 ∧ Int32.toInt l1 < 200 := by
        by_cases q : 0 ≤ Int32.toInt l1 ∧ Int32.toInt l1 < 200
        · exact q
        · rw [if_neg q] at h; cases h
      rw [if_pos b4] at h
      refine q_blk2 (pc2 := 32) (ls2 := [(0, .ref 128), (1, .int l1), (2, .int l2)]) (st2 := [.int (z2.1 133 (Int32.toNatClampNeg l1))]) (h2 := (q_K0, z2.1, z2.2, q_R0)) [(.aload_n 0, 0, 0, 0, 0, 0), (.getfield 23, 0, 9, 10, 0, 0), (.iload_n 1, 0, 0, 0, 0, 0), (.iaload, 0, 0, 0, 0, 0)] (by decide +kernel) rfl rfl ⟨trivial, rfl, trivial, ⟨_, rfl, vp_in_iff.mpr b4⟩, trivial⟩ ?_
      refine q_goto (off := 15) (tgt := 47) (by decide +kernel) (by decide) ?_
      cases h
      exact q_iret .int rfl rfl (by decide +kernel)
/-- RootFormsModel.size(I)I -/
def F_X10_size (z : q_Z) (l1 : Int32) : Option (Int32 × q_Z) :=
  if l1 = (0 : Int32) then
    some (z.1 128 6, (q_u2 z.1 128 3 0, z.2))
  else
    if l1 = (1 : Int32) then
      some (z.1 128 11, (q_u2 z.1 128 3 0, z.2))
    else
      if l1 = (2 : Int32) then
        some (z.1 128 7, (q_u2 z.1 128 3 0, z.2))
      else
        if l1 = (3 : Int32) then
          some (z.1 128 0, (q_u2 z.1 128 3 0, z.2))
        else
          some ((-2147483648), (q_u2 z.1 128 3 0, z.2))
set_option maxRecDepth 100000 in
set_option maxHeartbeats 4000000 in
theorem s_X10_size {z zR : q_Z} {l1 : Int32} {rv : Int32} (h : F_X10_size z l1 = some (rv, zR)) : q_Ca 155 [.ref 128, .int l1] (q_K0, z.1, z.2, q_R0) (some (.int rv)) (q_K0, zR.1, zR.2, q_R0) := by
  refine q_Ca_of (by decide) (Nat.le_of_ble_eq_true rfl) ?_
  show q_Ex none 155 0 [(0, .ref 128), (1, .int l1)] [] (q_K0, z.1, z.2, q_R0) _ _
  unfold F_X10_size at h
  refine q_blk2 (pc2 := 6) (ls2 := [(0, .ref 128), (1, .int l1)]) (st2 := [.int l1]) (h2 := (q_K0, q_u2 z.1 128 3 0, z.2, q_R0)) [(.aload_n 0, 0, 0, 0, 0, 0), (.iconst 0, 0, 0, 0, 0, 0), (.putfield 57, 0, 9, 3, 0, 0), (.iload_n 1, 0, 0, 0, 0, 0)] (by decide +kernel) rfl rfl ⟨trivial, trivial, ⟨rfl, rfl, rfl⟩, trivial, trivial⟩ ?_
  by_cases cw1 : l1 = (0 : Int32)
  · rw [if_pos cw1] at h
    refine q_tabI (dflt := 50) (lo := 0) (hi := 3) (offs := #[30, 35, 40, 45]) (len := 30) (off := 30) (tgt := 36) (by decide +kernel) (by rw [cw1]; decide) (by rw [cw1]; decide) (by rw [cw1]; rfl) (by decide) ?_
    refine q_blk2 (pc2 := 40) (ls2 := [(0, .ref 128), (1, .int l1)]) (st2 := [.int (z.1 128 6)]) (h2 := (q_K0, q_u2 z.1 128 3 0, z.2, q_R0)) [(.aload_n 0, 0, 0, 0, 0, 0), (.getfield 142, 0, 9, 6, 0, 0)] (by decide +kernel) rfl rfl ⟨trivial, rfl, trivial⟩ ?_
    cases h
    exact q_iret .int rfl rfl (by decide +kernel)
  rw [if_neg cw1] at h
  by_cases cw2 : l1 = (1 : Int32)
  · rw [if_pos cw2] at h
    refine q_tabI (dflt := 50) (lo := 0) (hi := 3) (offs := #[30, 35, 40, 45]) (len := 30) (off := 35) (tgt := 41) (by decide +kernel) (by rw [cw2]; decide) (by rw [cw2]; decide) (by rw [cw2]; rfl) (by decide) ?_
    refine q_blk2 (pc2 := 45) (ls2 := [(0, .ref 128), (1, .int l1)]) (st2 := [.int (z.1 128 11)]) (h2 := (q_K0, q_u2 z.1 128 3 0, z.2, q_R0)) [(.aload_n 0, 0, 0, 0, 0, 0), (.getfield 270, 0, 9, 11, 0, 0)] (by decide +kernel) rfl rfl ⟨trivial, rfl, trivial⟩ ?_
    cases h
    exact q_iret .int rfl rfl (by decide +kernel)
  rw [if_neg cw2] at h
  by_cases cw3 : l1 = (2 : Int32)
  · rw [if_pos cw3] at h
    refine q_tabI (dflt := 50) (lo := 0) (hi := 3) (offs := #[30, 35, 40, 45]) (len := 30) (off := 40) (tgt := 46) (by decide +kernel) (by rw [cw3]; decide) (by rw [cw3]; decide) (by rw [cw3]; rfl) (by decide) ?_
    refine q_blk2 (pc2 := 50) (ls2 := [(0, .ref 128), (1, .int l1)]) (st2 := [.int (z.1 128 7)]) (h2 := (q_K0, q_u2 z.1 128 3 0, z.2, q_R0)) [(.aload_n 0, 0, 0, 0, 0, 0), (.getfield 145, 0, 9, 7, 0, 0)] (by decide +kernel) rfl rfl ⟨trivial, rfl, trivial⟩ ?_
    cases h
    exact q_iret .int rfl rfl (by decide +kernel)
  rw [if_neg cw3] at h
  by_cases cw4 : l1 = (3 : Int32)
  · rw [if_pos cw4] at h
    refine q_tabI (dflt := 50) (lo := 0) (hi := 3) (offs := #[30, 35, 40, 45]) (len := 30) (off := 45) (tgt := 51) (by decide +kernel) (by rw [cw4]; decide) (by rw [cw4]; decide) (by rw [cw4]; rfl) (by decide) ?_
    refine q_blk2 (pc2 := 55) (ls2 := [(0, .ref 128), (1, .int l1)]) (st2 := [.int (z.1 128 0)]) (h2 := (q_K0, q_u2 z.1 128 3 0, z.2, q_R0)) [(.aload_n 0, 0, 0, 0, 0, 0), (.getfield 82, 0, 9, 0, 0, 0)] (by decide +kernel) rfl rfl ⟨trivial, rfl, trivial⟩ ?_
    cases h
    exact q_iret .int rfl rfl (by decide +kernel)
  rw [if_neg cw4] at h
  have e_cw1 : Int32.toInt l1 ≠ 0 := q_neI cw1
  have e_cw2 : Int32.toInt l1 ≠ 1 := q_neI cw2
  have e_cw3 : Int32.toInt l1 ≠ 2 := q_neI cw3
  have e_cw4 : Int32.toInt l1 ≠ 3 := q_neI cw4
  refine q_tabO (dflt := 50) (lo := 0) (hi := 3) (offs := #[30, 35, 40, 45]) (len := 30) (tgt := 56) (by decide +kernel) (by omega) (by decide) ?_
  refine q_blk2 (pc2 := 59) (ls2 := [(0, .ref 128), (1, .int l1)]) (st2 := [.int (-2147483648)]) (h2 := (q_K0, q_u2 z.1 128 3 0, z.2, q_R0)) [(.ldc_w 279, 0, 0, 0, (-2147483648), 0)] (by decide +kernel) rfl rfl ⟨trivial, trivial⟩ ?_
  cases h
  exact q_iret .int rfl rfl (by decide +kernel)
/-- RootFormsModel.trouble()I -/
def F_X10_trouble (z : q_Z) : Option (Int32 × q_Z) :=
  some (z.1 128 2, (q_u2 z.1 128 3 0, z.2))
set_option maxRecDepth 100000 in
set_option maxHeartbeats 4000000 in
theorem s_X10_trouble {z zR : q_Z} {rv : Int32} (h : F_X10_trouble z = some (rv, zR)) : q_Ca 156 [.ref 128] (q_K0, z.1, z.2, q_R0) (some (.int rv)) (q_K0, zR.1, zR.2, q_R0) := by
  refine q_Ca_of (by decide) (Nat.le_of_ble_eq_true rfl) ?_
  show q_Ex none 156 0 [(0, .ref 128)] [] (q_K0, z.1, z.2, q_R0) _ _
  unfold F_X10_trouble at h
  refine q_blk2 (pc2 := 9) (ls2 := [(0, .ref 128)]) (st2 := [.int (z.1 128 2)]) (h2 := (q_K0, q_u2 z.1 128 3 0, z.2, q_R0)) [(.aload_n 0, 0, 0, 0, 0, 0), (.iconst 0, 0, 0, 0, 0, 0), (.putfield 57, 0, 9, 3, 0, 0), (.aload_n 0, 0, 0, 0, 0, 0), (.getfield 61, 0, 9, 2, 0, 0)] (by decide +kernel) rfl rfl ⟨trivial, trivial, ⟨rfl, rfl, rfl⟩, trivial, rfl, trivial⟩ ?_
  cases h
  exact q_iret .int rfl rfl (by decide +kernel)
