/-! pure functions of the methods, and that the methods do what they say (written by wip/whole/dec.py) -/
/-- RootForms.root(I)Z -/
def F_X9_root (z : q_Z) (l1 : Int32) : Option (Int32 × q_Z) :=
  (F_X2_isDiscriminant z l1).bind fun (r1, z2) =>
    if r1 = (0 : Int32) then
      some (0, (q_u2 z2.1 1 9 1, z2.2))
    else
      (F_X2_settle z2 l1).bind fun (_, z4) =>
        (F_X6_empty z4).bind fun (_, z6) =>
          some (1, (q_u2 z6.1 1 9 0, z6.2))
set_option maxRecDepth 100000 in
set_option maxHeartbeats 4000000 in
theorem s_X9_root {z zR : q_Z} {l1 : Int32} {rv : Int32} (h : F_X9_root z l1 = some (rv, zR)) : q_Ca 59 [.ref 1, .int l1] (q_K0, z.1, z.2, q_R0) (some (.int rv)) (q_K0, zR.1, zR.2, q_R0) := by
  refine q_Ca_of (by decide) (Nat.le_of_ble_eq_true rfl) ?_
  show q_Ex none 59 0 [(0, .ref 1), (1, .int l1)] [] (q_K0, z.1, z.2, q_R0) _ _
  unfold F_X9_root at h
  refine q_blk2 (pc2 := 1) (ls2 := [(0, .ref 1), (1, .int l1)]) (st2 := [.int l1]) (h2 := (q_K0, z.1, z.2, q_R0)) [(.iload_n 1, 0, 0, 0, 0, 0)] (by decide +kernel) rfl rfl ⟨trivial, trivial⟩ ?_
  obtain ⟨⟨r1, z2⟩, hc7, h⟩ := Option.bind_eq_some_iff.mp h
  dsimp only at h
  refine q_cS1 (idx := 70) (v := .int r1) (h1 := (q_K0, z2.1, z2.2, q_R0)) [.int l1] 17 [.int l1] [] rfl (by decide +kernel) (by decide +kernel) rfl (Nat.le_of_ble_eq_true rfl) (by decide +kernel) (s_X2_isDiscriminant hc7) ?_
  refine q_if_ne (off := 10) (tgt := 14) (by decide +kernel) (by decide) (fun c4_1 => ?_) (fun c4_1 => ?_)
  · rw [if_neg c4_1] at h
    refine q_blk2 (pc2 := 19) (ls2 := [(0, .ref 1), (1, .int l1)]) (st2 := [.int l1, .ref 4]) (h2 := (q_K0, z2.1, z2.2, q_R0)) [(.aload_n 0, 0, 0, 0, 0, 0), (.getfield 27, 0, 8, 2, 0, 0), (.iload_n 1, 0, 0, 0, 0, 0)] (by decide +kernel) rfl rfl ⟨trivial, rfl, trivial, trivial⟩ ?_
    obtain ⟨⟨_, z4⟩, hc8, h⟩ := Option.bind_eq_some_iff.mp h
    dsimp only at h
    refine q_cV0 (idx := 76) (h1 := (q_K0, z4.1, z4.2, q_R0)) [.int l1, .ref 4] 18 4 2 [.int l1] [] rfl (by decide +kernel) (by decide +kernel) rfl (Nat.le_of_ble_eq_true rfl) rfl (by decide) (by decide +kernel) (by decide +kernel) (s_X2_settle hc8) ?_
    refine q_blk2 (pc2 := 26) (ls2 := [(0, .ref 1), (1, .int l1)]) (st2 := [.ref 17]) (h2 := (q_K0, z4.1, z4.2, q_R0)) [(.aload_n 0, 0, 0, 0, 0, 0), (.getfield 31, 0, 8, 3, 0, 0)] (by decide +kernel) rfl rfl ⟨trivial, rfl, trivial⟩ ?_
    obtain ⟨⟨_, z6⟩, hc9, h⟩ := Option.bind_eq_some_iff.mp h
    dsimp only at h
    refine q_cV0 (idx := 80) (h1 := (q_K0, z6.1, z6.2, q_R0)) [.ref 17] 43 17 6 [] [] rfl (by decide +kernel) (by decide +kernel) rfl (Nat.le_of_ble_eq_true rfl) rfl (by decide) (by decide +kernel) (by decide +kernel) (s_X6_empty hc9) ?_
    refine q_blk2 (pc2 := 35) (ls2 := [(0, .ref 1), (1, .int l1)]) (st2 := [.int 1]) (h2 := (q_K0, q_u2 z6.1 1 9 0, z6.2, q_R0)) [(.aload_n 0, 0, 0, 0, 0, 0), (.iconst 0, 0, 0, 0, 0, 0), (.putfield 66, 0, 8, 9, 0, 0), (.iconst 1, 0, 0, 0, 1, 0)] (by decide +kernel) rfl rfl ⟨trivial, trivial, ⟨rfl, rfl, rfl⟩, trivial, trivial⟩ ?_
    cases h
    exact q_iret .boolean rfl rfl (by decide +kernel)
  · rw [if_pos c4_1] at h
    refine q_blk2 (pc2 := 13) (ls2 := [(0, .ref 1), (1, .int l1)]) (st2 := [.int 0]) (h2 := (q_K0, q_u2 z2.1 1 9 1, z2.2, q_R0)) [(.aload_n 0, 0, 0, 0, 0, 0), (.iconst 1, 0, 0, 0, 1, 0), (.putfield 66, 0, 8, 9, 0, 0), (.iconst 0, 0, 0, 0, 0, 0)] (by decide +kernel) rfl rfl ⟨trivial, trivial, ⟨rfl, rfl, rfl⟩, trivial, trivial⟩ ?_
    cases h
    exact q_iret .boolean rfl rfl (by decide +kernel)
def T_X9_isBeyond_14 (z : q_Z) : Option (Int32 × q_Z) :=
  some (1, z)
set_option maxRecDepth 100000 in
set_option maxHeartbeats 4000000 in
theorem t_X9_isBeyond_14 {z zR : q_Z} {rv : Int32} (h : T_X9_isBeyond_14 z = some (rv, zR)) : q_Ex none 91 14 [] [] (q_K0, z.1, z.2, q_R0) (some (.int rv)) (q_K0, zR.1, zR.2, q_R0) := by
  unfold T_X9_isBeyond_14 at h
  refine q_blk2 (pc2 := 15) (ls2 := []) (st2 := [.int 1]) (h2 := (q_K0, z.1, z.2, q_R0)) [(.iconst 1, 0, 0, 0, 1, 0)] (by decide +kernel) rfl rfl ⟨trivial, trivial⟩ ?_
  refine q_goto (off := 4) (tgt := 19) (by decide +kernel) (by decide) ?_
  cases h
  exact q_iret .boolean rfl rfl (by decide +kernel)
/-- RootForms.isBeyond(I)Z -/
def F_X9_isBeyond (z : q_Z) (l0 : Int32) : Option (Int32 × q_Z) :=
  if l0 < (-1000000 : Int32) then
    T_X9_isBeyond_14 z
  else
    if l0 ≤ (1000000 : Int32) then
      some (0, z)
    else
      T_X9_isBeyond_14 z
set_option maxRecDepth 100000 in
set_option maxHeartbeats 4000000 in
theorem s_X9_isBeyond {z zR : q_Z} {l0 : Int32} {rv : Int32} (h : F_X9_isBeyond z l0 = some (rv, zR)) : q_Ca 91 [.int l0] (q_K0, z.1, z.2, q_R0) (some (.int rv)) (q_K0, zR.1, zR.2, q_R0) := by
  refine q_Ca_of (by decide) (Nat.le_of_ble_eq_true rfl) ?_
  show q_Ex none 91 0 [(0, .int l0)] [] (q_K0, z.1, z.2, q_R0) _ _
  unfold F_X9_isBeyond at h
  refine q_blk2 (pc2 := 4) (ls2 := [(0, .int l0)]) (st2 := [.int (-1000000), .int l0]) (h2 := (q_K0, z.1, z.2, q_R0)) [(.iload_n 0, 0, 0, 0, 0, 0), (.ldc_w 280, 0, 0, 0, (-1000000), 0)] (by decide +kernel) rfl rfl ⟨trivial, trivial, trivial⟩ ?_
  refine q_ic_lt (off := 10) (tgt := 14) (by decide +kernel) (by decide) (fun c4_1 => ?_) (fun c4_1 => ?_)
  · rw [if_pos c4_1] at h
    refine q_pick [] rfl ?_
    exact t_X9_isBeyond_14 h
  · rw [if_neg c4_1] at h
    refine q_blk2 (pc2 := 11) (ls2 := [(0, .int l0)]) (st2 := [.int 1000000, .int l0]) (h2 := (q_K0, z.1, z.2, q_R0)) [(.iload_n 0, 0, 0, 0, 0, 0), (.ldc_w 281, 0, 0, 0, 1000000, 0)] (by decide +kernel) rfl rfl ⟨trivial, trivial, trivial⟩ ?_
    refine q_ic_le (off := 7) (tgt := 18) (by decide +kernel) (by decide) (fun c11_2 => ?_) (fun c11_2 => ?_)
    · rw [if_pos c11_2] at h
      refine q_blk2 (pc2 := 19) (ls2 := [(0, .int l0)]) (st2 := [.int 0]) (h2 := (q_K0, z.1, z.2, q_R0)) [(.iconst 0, 0, 0, 0, 0, 0)] (by decide +kernel) rfl rfl ⟨trivial, trivial⟩ ?_
      cases h
      exact q_iret .boolean rfl rfl (by decide +kernel)
    · rw [if_neg c11_2] at h
      refine q_pick [] rfl ?_
      exact t_X9_isBeyond_14 h
/-- RootForms.refuse(I)I -/
def F_X9_refuse (z : q_Z) (l1 : Int32) : Option (Int32 × q_Z) :=
  some ((-1), (q_u2 z.1 1 9 l1, z.2))
set_option maxRecDepth 100000 in
set_option maxHeartbeats 4000000 in
theorem s_X9_refuse {z zR : q_Z} {l1 : Int32} {rv : Int32} (h : F_X9_refuse z l1 = some (rv, zR)) : q_Ca 89 [.ref 1, .int l1] (q_K0, z.1, z.2, q_R0) (some (.int rv)) (q_K0, zR.1, zR.2, q_R0) := by
  refine q_Ca_of (by decide) (Nat.le_of_ble_eq_true rfl) ?_
  show q_Ex none 89 0 [(0, .ref 1), (1, .int l1)] [] (q_K0, z.1, z.2, q_R0) _ _
  unfold F_X9_refuse at h
  refine q_blk2 (pc2 := 6) (ls2 := [(0, .ref 1), (1, .int l1)]) (st2 := [.int (-1)]) (h2 := (q_K0, q_u2 z.1 1 9 l1, z.2, q_R0)) [(.aload_n 0, 0, 0, 0, 0, 0), (.iload_n 1, 0, 0, 0, 0, 0), (.putfield 66, 0, 8, 9, 0, 0), (.iconst (-1), 0, 0, 0, (-1), 0)] (by decide +kernel) rfl rfl ⟨trivial, trivial, ⟨rfl, rfl, rfl⟩, trivial, trivial⟩ ?_
  cases h
  exact q_iret .int rfl rfl (by decide +kernel)
/-- RootForms.accept(I)I -/
def F_X9_accept (z : q_Z) (l1 : Int32) : Option (Int32 × q_Z) :=
  some (l1, (q_u2 z.1 1 9 0, z.2))
set_option maxRecDepth 100000 in
set_option maxHeartbeats 4000000 in
theorem s_X9_accept {z zR : q_Z} {l1 : Int32} {rv : Int32} (h : F_X9_accept z l1 = some (rv, zR)) : q_Ca 90 [.ref 1, .int l1] (q_K0, z.1, z.2, q_R0) (some (.int rv)) (q_K0, zR.1, zR.2, q_R0) := by
  refine q_Ca_of (by decide) (Nat.le_of_ble_eq_true rfl) ?_
  show q_Ex none 90 0 [(0, .ref 1), (1, .int l1)] [] (q_K0, z.1, z.2, q_R0) _ _
  unfold F_X9_accept at h
  refine q_blk2 (pc2 := 6) (ls2 := [(0, .ref 1), (1, .int l1)]) (st2 := [.int l1]) (h2 := (q_K0, q_u2 z.1 1 9 0, z.2, q_R0)) [(.aload_n 0, 0, 0, 0, 0, 0), (.iconst 0, 0, 0, 0, 0, 0), (.putfield 66, 0, 8, 9, 0, 0), (.iload_n 1, 0, 0, 0, 0, 0)] (by decide +kernel) rfl rfl ⟨trivial, trivial, ⟨rfl, rfl, rfl⟩, trivial, trivial⟩ ?_
  cases h
  exact q_iret .int rfl rfl (by decide +kernel)
def T_X9_form_18 (z : q_Z) : Option (Int32 × q_Z) :=
  (F_X9_refuse z 1).bind fun (r1, z2) =>
    some (r1, z2)
set_option maxRecDepth 100000 in
set_option maxHeartbeats 4000000 in
theorem t_X9_form_18 {z zR : q_Z} {rv : Int32} (h : T_X9_form_18 z = some (rv, zR)) : q_Ex none 60 18 [(0, .ref 1)] [] (q_K0, z.1, z.2, q_R0) (some (.int rv)) (q_K0, zR.1, zR.2, q_R0) := by
  unfold T_X9_form_18 at h
  refine q_blk2 (pc2 := 20) (ls2 := [(0, .ref 1)]) (st2 := [.int 1, .ref 1]) (h2 := (q_K0, z.1, z.2, q_R0)) [(.aload_n 0, 0, 0, 0, 0, 0), (.iconst 1, 0, 0, 0, 1, 0)] (by decide +kernel) rfl rfl ⟨trivial, trivial, trivial⟩ ?_
  obtain ⟨⟨r1, z2⟩, hc3, h⟩ := Option.bind_eq_some_iff.mp h
  dsimp only at h
  refine q_cV1 (idx := 86) (v := .int r1) (h1 := (q_K0, z2.1, z2.2, q_R0)) [.int 1, .ref 1] 89 1 8 [.int 1] [] rfl (by decide +kernel) (by decide +kernel) rfl (Nat.le_of_ble_eq_true rfl) rfl (by decide) (by decide +kernel) (by decide +kernel) (s_X9_refuse hc3) ?_
  cases h
  exact q_iret .int rfl rfl (by decide +kernel)
def T_X9_form_70 (z : q_Z) : Option (Int32 × q_Z) :=
  (F_X9_refuse z 4).bind fun (r10, z11) =>
    some (r10, z11)
set_option maxRecDepth 100000 in
set_option maxHeartbeats 4000000 in
theorem t_X9_form_70 {z zR : q_Z} {rv : Int32} (h : T_X9_form_70 z = some (rv, zR)) : q_Ex none 60 70 [(0, .ref 1)] [] (q_K0, z.1, z.2, q_R0) (some (.int rv)) (q_K0, zR.1, zR.2, q_R0) := by
  unfold T_X9_form_70 at h
  refine q_blk2 (pc2 := 72) (ls2 := [(0, .ref 1)]) (st2 := [.int 4, .ref 1]) (h2 := (q_K0, z.1, z.2, q_R0)) [(.aload_n 0, 0, 0, 0, 0, 0), (.iconst 4, 0, 0, 0, 4, 0)] (by decide +kernel) rfl rfl ⟨trivial, trivial, trivial⟩ ?_
  obtain ⟨⟨r10, z11⟩, hc12, h⟩ := Option.bind_eq_some_iff.mp h
  dsimp only at h
  refine q_cV1 (idx := 86) (v := .int r10) (h1 := (q_K0, z11.1, z11.2, q_R0)) [.int 4, .ref 1] 89 1 8 [.int 4] [] rfl (by decide +kernel) (by decide +kernel) rfl (Nat.le_of_ble_eq_true rfl) rfl (by decide) (by decide +kernel) (by decide +kernel) (s_X9_refuse hc12) ?_
  cases h
  exact q_iret .int rfl rfl (by decide +kernel)
/-- RootForms.form(II)I -/
def F_X9_form (z : q_Z) (l1 : Int32) (l2 : Int32) : Option (Int32 × q_Z) :=
  if l1 = (0 : Int32) then
    T_X9_form_18 z
  else
    (F_X9_isBeyond z l1).bind fun (r4, z5) =>
      if r4 = (0 : Int32) then
        (F_X9_isBeyond z5 l2).bind fun (r6, z7) =>
          if r6 = (0 : Int32) then
            (F_X2_complete 126 z7 (Int32.toInt64 l1) (Int32.toInt64 l2)).bind fun (r8, z9) =>
              if r8 = (0 : Int32) then
                T_X9_form_70 z9
              else
                if (z9.2 126 2) < (-1000000 : Int64) then
                  T_X9_form_70 z9
                else
                  if (z9.2 126 2) ≤ (1000000 : Int64) then
                    (F_X6_lay 126 z9).bind fun (r13, z14) =>
                      if (0 : Int32) ≤ r13 then
                        (F_X9_accept z14 r13).bind fun (r15, z16) =>
                          some (r15, z16)
                      else
                        (F_X9_refuse z14 3).bind fun (r17, z18) =>
                          some (r17, z18)
                  else
                    T_X9_form_70 z9
          else
            T_X9_form_18 z7
      else
        T_X9_form_18 z5
set_option maxRecDepth 100000 in
set_option maxHeartbeats 4000000 in
theorem s_X9_form {z zR : q_Z} {l1 : Int32} {l2 : Int32} {rv : Int32} (h : F_X9_form z l1 l2 = some (rv, zR)) : q_Ca 60 [.ref 1, .int l1, .int l2] (q_K0, z.1, z.2, q_R0) (some (.int rv)) (q_K0, zR.1, zR.2, q_R0) := by
  refine q_Ca_of (by decide) (Nat.le_of_ble_eq_true rfl) ?_
  show q_Ex none 60 0 [(0, .ref 1), (1, .int l1), (2, .int l2)] [] (q_K0, z.1, z.2, q_R0) _ _
  unfold F_X9_form at h
  refine q_blk2 (pc2 := 1) (ls2 := [(0, .ref 1), (1, .int l1), (2, .int l2)]) (st2 := [.int l1]) (h2 := (q_K0, z.1, z.2, q_R0)) [(.iload_n 1, 0, 0, 0, 0, 0)] (by decide +kernel) rfl rfl ⟨trivial, trivial⟩ ?_
  refine q_if_eq (off := 17) (tgt := 18) (by decide +kernel) (by decide) (fun c1_1 => ?_) (fun c1_1 => ?_)
  · rw [if_pos c1_1] at h
    refine q_pick [0] rfl ?_
    exact t_X9_form_18 h
  · rw [if_neg c1_1] at h
    refine q_blk2 (pc2 := 5) (ls2 := [(0, .ref 1), (1, .int l1), (2, .int l2)]) (st2 := [.int l1]) (h2 := (q_K0, z.1, z.2, q_R0)) [(.iload_n 1, 0, 0, 0, 0, 0)] (by decide +kernel) rfl rfl ⟨trivial, trivial⟩ ?_
    obtain ⟨⟨r4, z5⟩, hc19, h⟩ := Option.bind_eq_some_iff.mp h
    dsimp only at h
    refine q_cS1 (idx := 83) (v := .int r4) (h1 := (q_K0, z5.1, z5.2, q_R0)) [.int l1] 91 [.int l1] [] rfl (by decide +kernel) (by decide +kernel) rfl (Nat.le_of_ble_eq_true rfl) (by decide +kernel) (s_X9_isBeyond hc19) ?_
    refine q_if_ne (off := 10) (tgt := 18) (by decide +kernel) (by decide) (fun c8_2 => ?_) (fun c8_2 => ?_)
    · rw [if_neg c8_2] at h
      refine q_pick [0] rfl ?_
      exact t_X9_form_18 h
    · rw [if_pos c8_2] at h
      refine q_blk2 (pc2 := 12) (ls2 := [(0, .ref 1), (1, .int l1), (2, .int l2)]) (st2 := [.int l2]) (h2 := (q_K0, z5.1, z5.2, q_R0)) [(.iload_n 2, 0, 0, 0, 0, 0)] (by decide +kernel) rfl rfl ⟨trivial, trivial⟩ ?_
      obtain ⟨⟨r6, z7⟩, hc20, h⟩ := Option.bind_eq_some_iff.mp h
      dsimp only at h
      refine q_cS1 (idx := 83) (v := .int r6) (h1 := (q_K0, z7.1, z7.2, q_R0)) [.int l2] 91 [.int l2] [] rfl (by decide +kernel) (by decide +kernel) rfl (Nat.le_of_ble_eq_true rfl) (by decide +kernel) (s_X9_isBeyond hc20) ?_
      refine q_if_eq (off := 9) (tgt := 24) (by decide +kernel) (by decide) (fun c15_3 => ?_) (fun c15_3 => ?_)
      · rw [if_pos c15_3] at h
        refine q_blk2 (pc2 := 36) (ls2 := [(0, .ref 1), (1, .int l1), (2, .int l2)]) (st2 := [.ref 126, .long (Int32.toInt64 l2), .long (Int32.toInt64 l1), .ref 4]) (h2 := (q_K0, z7.1, z7.2, q_R0)) [(.aload_n 0, 0, 0, 0, 0, 0), (.getfield 27, 0, 8, 2, 0, 0), (.iload_n 1, 0, 0, 0, 0, 0), (.i2l, 0, 0, 0, 0, 0), (.iload_n 2, 0, 0, 0, 0, 0), (.i2l, 0, 0, 0, 0, 0), (.aload_n 0, 0, 0, 0, 0, 0), (.getfield 59, 0, 8, 7, 0, 0)] (by decide +kernel) rfl rfl ⟨trivial, rfl, trivial, trivial, trivial, trivial, trivial, rfl, trivial⟩ ?_
        obtain ⟨⟨r8, z9⟩, hc21, h⟩ := Option.bind_eq_some_iff.mp h
        dsimp only at h
        refine q_cV1 (idx := 90) (v := .int r8) (h1 := (q_K0, z9.1, z9.2, q_R0)) [.ref 126, .long (Int32.toInt64 l2), .long (Int32.toInt64 l1), .ref 4] 19 4 2 [.long (Int32.toInt64 l1), .long (Int32.toInt64 l2), .ref 126] [] rfl (by decide +kernel) (by decide +kernel) rfl (Nat.le_of_ble_eq_true rfl) rfl (by decide) (by decide +kernel) (by decide +kernel) (s_X2_complete rfl hc21) ?_
        refine q_if_eq (off := 31) (tgt := 70) (by decide +kernel) (by decide) (fun c39_4 => ?_) (fun c39_4 => ?_)
        · rw [if_pos c39_4] at h
          refine q_pick [0] rfl ?_
          exact t_X9_form_70 h
        · rw [if_neg c39_4] at h
          refine q_blk2 (pc2 := 52) (ls2 := [(0, .ref 1), (1, .int l1), (2, .int l2)]) (st2 := [.long (-1000000), .long (z9.2 126 2)]) (h2 := (q_K0, z9.1, z9.2, q_R0)) [(.aload_n 0, 0, 0, 0, 0, 0), (.getfield 59, 0, 8, 7, 0, 0), (.getfield 94, 0, 1, 2, 0, 0), (.ldc2_w 98, 0, 0, 0, 0, (-1000000))] (by decide +kernel) rfl rfl ⟨trivial, rfl, rfl, trivial, trivial⟩ ?_
          refine q_lc_lt (off := 17) (tgt := 70) (by decide +kernel) (by decide +kernel) (by decide) (fun c52_5 => ?_) (fun c52_5 => ?_)
          · rw [if_pos c52_5] at h
            refine q_pick [0] rfl ?_
            exact t_X9_form_70 h
          · rw [if_neg c52_5] at h
            refine q_blk2 (pc2 := 66) (ls2 := [(0, .ref 1), (1, .int l1), (2, .int l2)]) (st2 := [.long 1000000, .long (z9.2 126 2)]) (h2 := (q_K0, z9.1, z9.2, q_R0)) [(.aload_n 0, 0, 0, 0, 0, 0), (.getfield 59, 0, 8, 7, 0, 0), (.getfield 94, 0, 1, 2, 0, 0), (.ldc2_w 100, 0, 0, 0, 0, 1000000)] (by decide +kernel) rfl rfl ⟨trivial, rfl, rfl, trivial, trivial⟩ ?_
            refine q_lc_le (off := 9) (tgt := 76) (by decide +kernel) (by decide +kernel) (by decide) (fun c66_6 => ?_) (fun c66_6 => ?_)
            · rw [if_pos c66_6] at h
              refine q_blk2 (pc2 := 84) (ls2 := [(0, .ref 1), (1, .int l1), (2, .int l2)]) (st2 := [.ref 126, .ref 17]) (h2 := (q_K0, z9.1, z9.2, q_R0)) [(.aload_n 0, 0, 0, 0, 0, 0), (.getfield 31, 0, 8, 3, 0, 0), (.aload_n 0, 0, 0, 0, 0, 0), (.getfield 59, 0, 8, 7, 0, 0)] (by decide +kernel) rfl rfl ⟨trivial, rfl, trivial, rfl, trivial⟩ ?_
              obtain ⟨⟨r13, z14⟩, hc22, h⟩ := Option.bind_eq_some_iff.mp h
              dsimp only at h
              refine q_cV1 (idx := 102) (v := .int r13) (h1 := (q_K0, z14.1, z14.2, q_R0)) [.ref 126, .ref 17] 45 17 6 [.ref 126] [] rfl (by decide +kernel) (by decide +kernel) rfl (Nat.le_of_ble_eq_true rfl) rfl (by decide) (by decide +kernel) (by decide +kernel) (s_X6_lay rfl hc22) ?_
              refine q_blk2 (pc2 := 89) (ls2 := [(3, .int r13), (0, .ref 1), (1, .int l1), (2, .int l2)]) (st2 := [.int r13]) (h2 := (q_K0, z14.1, z14.2, q_R0)) [(.istore_n 3, 0, 0, 0, 0, 0), (.iload_n 3, 0, 0, 0, 0, 0)] (by decide +kernel) rfl rfl ⟨trivial, trivial, trivial⟩ ?_
              refine q_if_ge (off := 11) (tgt := 100) (by decide +kernel) (by decide) (fun c89_7 => ?_) (fun c89_7 => ?_)
              · rw [if_pos c89_7] at h
                refine q_blk2 (pc2 := 102) (ls2 := [(3, .int r13), (0, .ref 1), (1, .int l1), (2, .int l2)]) (st2 := [.int r13, .ref 1]) (h2 := (q_K0, z14.1, z14.2, q_R0)) [(.aload_n 0, 0, 0, 0, 0, 0), (.iload_n 3, 0, 0, 0, 0, 0)] (by decide +kernel) rfl rfl ⟨trivial, trivial, trivial⟩ ?_
                obtain ⟨⟨r15, z16⟩, hc23, h⟩ := Option.bind_eq_some_iff.mp h
                dsimp only at h
                refine q_cV1 (idx := 106) (v := .int r15) (h1 := (q_K0, z16.1, z16.2, q_R0)) [.int r13, .ref 1] 90 1 8 [.int r13] [] rfl (by decide +kernel) (by decide +kernel) rfl (Nat.le_of_ble_eq_true rfl) rfl (by decide) (by decide +kernel) (by decide +kernel) (s_X9_accept hc23) ?_
                cases h
                exact q_iret .int rfl rfl (by decide +kernel)
              · rw [if_neg c89_7] at h
                refine q_blk2 (pc2 := 94) (ls2 := [(3, .int r13), (0, .ref 1), (1, .int l1), (2, .int l2)]) (st2 := [.int 3, .ref 1]) (h2 := (q_K0, z14.1, z14.2, q_R0)) [(.aload_n 0, 0, 0, 0, 0, 0), (.iconst 3, 0, 0, 0, 3, 0)] (by decide +kernel) rfl rfl ⟨trivial, trivial, trivial⟩ ?_
                obtain ⟨⟨r17, z18⟩, hc24, h⟩ := Option.bind_eq_some_iff.mp h
                dsimp only at h
                refine q_cV1 (idx := 86) (v := .int r17) (h1 := (q_K0, z18.1, z18.2, q_R0)) [.int 3, .ref 1] 89 1 8 [.int 3] [] rfl (by decide +kernel) (by decide +kernel) rfl (Nat.le_of_ble_eq_true rfl) rfl (by decide) (by decide +kernel) (by decide +kernel) (s_X9_refuse hc24) ?_
                refine q_goto (off := 8) (tgt := 105) (by decide +kernel) (by decide) ?_
                cases h
                exact q_iret .int rfl rfl (by decide +kernel)
            · rw [if_neg c66_6] at h
              refine q_pick [0] rfl ?_
              exact t_X9_form_70 h
      · rw [if_neg c15_3] at h
        refine q_pick [0] rfl ?_
        exact t_X9_form_18 h
/-- RootForms.number(II)I -/
def F_X9_number (z : q_Z) (l1 : Int32) (l2 : Int32) : Option (Int32 × q_Z) :=
  (F_X6_at z l1).bind fun (r1, z2) =>
    match r1 with
    | none =>
      some (0, z2)
    | some oo3 =>
      (F_X1_part oo3 z2 l2).bind fun (r4, z5) =>
        some (r4, z5)
set_option maxRecDepth 100000 in
set_option maxHeartbeats 4000000 in
theorem s_X9_number {z zR : q_Z} {l1 : Int32} {l2 : Int32} {rv : Int32} (h : F_X9_number z l1 l2 = some (rv, zR)) : q_Ca 61 [.ref 1, .int l1, .int l2] (q_K0, z.1, z.2, q_R0) (some (.int rv)) (q_K0, zR.1, zR.2, q_R0) := by
  refine q_Ca_of (by decide) (Nat.le_of_ble_eq_true rfl) ?_
  show q_Ex none 61 0 [(0, .ref 1), (1, .int l1), (2, .int l2)] [] (q_K0, z.1, z.2, q_R0) _ _
  unfold F_X9_number at h
  refine q_blk2 (pc2 := 5) (ls2 := [(0, .ref 1), (1, .int l1), (2, .int l2)]) (st2 := [.int l1, .ref 17]) (h2 := (q_K0, z.1, z.2, q_R0)) [(.aload_n 0, 0, 0, 0, 0, 0), (.getfield 31, 0, 8, 3, 0, 0), (.iload_n 1, 0, 0, 0, 0, 0)] (by decide +kernel) rfl rfl ⟨trivial, rfl, trivial, trivial⟩ ?_
  obtain ⟨⟨r1, z2⟩, hc6, h⟩ := Option.bind_eq_some_iff.mp h
  dsimp only at h
  refine q_cV1 (idx := 109) (v := va_rf r1) (h1 := (q_K0, z2.1, z2.2, q_R0)) [.int l1, .ref 17] 44 17 6 [.int l1] [] rfl (by decide +kernel) (by decide +kernel) rfl (Nat.le_of_ble_eq_true rfl) rfl (by decide) (by decide +kernel) (by decide +kernel) (s_X6_at hc6) ?_
  rcases he7 : r1 with _ | oo3
  · rw [he7] at h
    dsimp only at h
    show q_Ex _ _ 8 [(0, .ref 1), (1, .int l1), (2, .int l2)] (.null :: []) (q_K0, z2.1, z2.2, q_R0) _ _
    refine q_blk2 (pc2 := 10) (ls2 := [(3, .null), (0, .ref 1), (1, .int l1), (2, .int l2)]) (st2 := [.null]) (h2 := (q_K0, z2.1, z2.2, q_R0)) [(.astore_n 3, 0, 0, 0, 0, 0), (.aload_n 3, 0, 0, 0, 0, 0)] (by decide +kernel) rfl rfl ⟨trivial, trivial, trivial⟩ ?_
    refine q_non_n (off := 7) (by decide +kernel) ?_
    refine q_blk2 (pc2 := 14) (ls2 := [(3, .null), (0, .ref 1), (1, .int l1), (2, .int l2)]) (st2 := [.int 0]) (h2 := (q_K0, z2.1, z2.2, q_R0)) [(.iconst 0, 0, 0, 0, 0, 0)] (by decide +kernel) rfl rfl ⟨trivial, trivial⟩ ?_
    refine q_goto (off := 8) (tgt := 22) (by decide +kernel) (by decide) ?_
    cases h
    exact q_iret .int rfl rfl (by decide +kernel)
  · rw [he7] at h
    dsimp only at h
    show q_Ex _ _ 8 [(0, .ref 1), (1, .int l1), (2, .int l2)] (.ref oo3 :: []) (q_K0, z2.1, z2.2, q_R0) _ _
    have hoo3 : q_kk oo3 = some (.inl 1) := kf_X6_at hc6 he7
    refine q_blk2 (pc2 := 10) (ls2 := [(3, .ref oo3), (0, .ref 1), (1, .int l1), (2, .int l2)]) (st2 := [.ref oo3]) (h2 := (q_K0, z2.1, z2.2, q_R0)) [(.astore_n 3, 0, 0, 0, 0, 0), (.aload_n 3, 0, 0, 0, 0, 0)] (by decide +kernel) rfl rfl ⟨trivial, trivial, trivial⟩ ?_
    refine q_non_r (off := 7) (tgt := 17) (by decide +kernel) (by decide) ?_
    refine q_blk2 (pc2 := 19) (ls2 := [(3, .ref oo3), (0, .ref 1), (1, .int l1), (2, .int l2)]) (st2 := [.int l2, .ref oo3]) (h2 := (q_K0, z2.1, z2.2, q_R0)) [(.aload_n 3, 0, 0, 0, 0, 0), (.iload_n 2, 0, 0, 0, 0, 0)] (by decide +kernel) rfl rfl ⟨trivial, trivial, trivial⟩ ?_
    obtain ⟨⟨r4, z5⟩, hc8, h⟩ := Option.bind_eq_some_iff.mp h
    dsimp only at h
    refine q_cV1 (idx := 113) (v := .int r4) (h1 := (q_K0, z5.1, z5.2, q_R0)) [.int l2, .ref oo3] 14 oo3 1 [.int l2] [] rfl (by decide +kernel) (by decide +kernel) rfl (Nat.le_of_ble_eq_true rfl) hoo3 (by decide) (by decide +kernel) (by decide +kernel) (s_X1_part hoo3 hc8) ?_
    cases h
    exact q_iret .int rfl rfl (by decide +kernel)
def T_X9_least_36 (z : q_Z) (t0 : Int32) : Option (Int32 × q_Z) :=
  (F_X9_accept z t0).bind fun (r8, z9) =>
    some (r8, z9)
set_option maxRecDepth 100000 in
set_option maxHeartbeats 4000000 in
theorem t_X9_least_36 {z zR : q_Z} {t0 : Int32} {rv : Int32} (h : T_X9_least_36 z t0 = some (rv, zR)) : q_Ex none 62 36 [] [.int t0, .ref 1] (q_K0, z.1, z.2, q_R0) (some (.int rv)) (q_K0, zR.1, zR.2, q_R0) := by
  unfold T_X9_least_36 at h
  obtain ⟨⟨r8, z9⟩, hc10, h⟩ := Option.bind_eq_some_iff.mp h
  dsimp only at h
  refine q_cV1 (idx := 106) (v := .int r8) (h1 := (q_K0, z9.1, z9.2, q_R0)) [.int t0, .ref 1] 90 1 8 [.int t0] [] rfl (by decide +kernel) (by decide +kernel) rfl (Nat.le_of_ble_eq_true rfl) rfl (by decide) (by decide +kernel) (by decide +kernel) (s_X9_accept hc10) ?_
  cases h
  exact q_iret .int rfl rfl (by decide +kernel)
/-- RootForms.least(I)I -/
def F_X9_least (z : q_Z) (l1 : Int32) : Option (Int32 × q_Z) :=
  (F_X6_at z l1).bind fun (r1, z2) =>
    match r1 with
    | none =>
      (F_X9_refuse z2 2).bind fun (r4, z5) =>
        some (r4, z5)
    | some oo3 =>
      (F_X2_isLeast oo3 z2).bind fun (r6, z7) =>
        if r6 = (0 : Int32) then
          T_X9_least_36 z7 0
        else
          T_X9_least_36 z7 1
set_option maxRecDepth 100000 in
set_option maxHeartbeats 4000000 in
theorem s_X9_least {z zR : q_Z} {l1 : Int32} {rv : Int32} (h : F_X9_least z l1 = some (rv, zR)) : q_Ca 62 [.ref 1, .int l1] (q_K0, z.1, z.2, q_R0) (some (.int rv)) (q_K0, zR.1, zR.2, q_R0) := by
  refine q_Ca_of (by decide) (Nat.le_of_ble_eq_true rfl) ?_
  show q_Ex none 62 0 [(0, .ref 1), (1, .int l1)] [] (q_K0, z.1, z.2, q_R0) _ _
  unfold F_X9_least at h
  refine q_blk2 (pc2 := 5) (ls2 := [(0, .ref 1), (1, .int l1)]) (st2 := [.int l1, .ref 17]) (h2 := (q_K0, z.1, z.2, q_R0)) [(.aload_n 0, 0, 0, 0, 0, 0), (.getfield 31, 0, 8, 3, 0, 0), (.iload_n 1, 0, 0, 0, 0, 0)] (by decide +kernel) rfl rfl ⟨trivial, rfl, trivial, trivial⟩ ?_
  obtain ⟨⟨r1, z2⟩, hc11, h⟩ := Option.bind_eq_some_iff.mp h
  dsimp only at h
  refine q_cV1 (idx := 109) (v := va_rf r1) (h1 := (q_K0, z2.1, z2.2, q_R0)) [.int l1, .ref 17] 44 17 6 [.int l1] [] rfl (by decide +kernel) (by decide +kernel) rfl (Nat.le_of_ble_eq_true rfl) rfl (by decide) (by decide +kernel) (by decide +kernel) (s_X6_at hc11) ?_
  rcases he12 : r1 with _ | oo3
  · rw [he12] at h
    dsimp only at h
    show q_Ex _ _ 8 [(0, .ref 1), (1, .int l1)] (.null :: []) (q_K0, z2.1, z2.2, q_R0) _ _
    refine q_blk2 (pc2 := 10) (ls2 := [(2, .null), (0, .ref 1), (1, .int l1)]) (st2 := [.null]) (h2 := (q_K0, z2.1, z2.2, q_R0)) [(.astore_n 2, 0, 0, 0, 0, 0), (.aload_n 2, 0, 0, 0, 0, 0)] (by decide +kernel) rfl rfl ⟨trivial, trivial, trivial⟩ ?_
    refine q_non_n (off := 9) (by decide +kernel) ?_
    refine q_blk2 (pc2 := 15) (ls2 := [(2, .null), (0, .ref 1), (1, .int l1)]) (st2 := [.int 2, .ref 1]) (h2 := (q_K0, z2.1, z2.2, q_R0)) [(.aload_n 0, 0, 0, 0, 0, 0), (.iconst 2, 0, 0, 0, 2, 0)] (by decide +kernel) rfl rfl ⟨trivial, trivial, trivial⟩ ?_
    obtain ⟨⟨r4, z5⟩, hc13, h⟩ := Option.bind_eq_some_iff.mp h
    dsimp only at h
    refine q_cV1 (idx := 86) (v := .int r4) (h1 := (q_K0, z5.1, z5.2, q_R0)) [.int 2, .ref 1] 89 1 8 [.int 2] [] rfl (by decide +kernel) (by decide +kernel) rfl (Nat.le_of_ble_eq_true rfl) rfl (by decide) (by decide +kernel) (by decide +kernel) (s_X9_refuse hc13) ?_
    cases h
    exact q_iret .int rfl rfl (by decide +kernel)
  · rw [he12] at h
    dsimp only at h
    show q_Ex _ _ 8 [(0, .ref 1), (1, .int l1)] (.ref oo3 :: []) (q_K0, z2.1, z2.2, q_R0) _ _
    have hoo3 : q_kk oo3 = some (.inl 1) := kf_X6_at hc11 he12
    refine q_blk2 (pc2 := 10) (ls2 := [(2, .ref oo3), (0, .ref 1), (1, .int l1)]) (st2 := [.ref oo3]) (h2 := (q_K0, z2.1, z2.2, q_R0)) [(.astore_n 2, 0, 0, 0, 0, 0), (.aload_n 2, 0, 0, 0, 0, 0)] (by decide +kernel) rfl rfl ⟨trivial, trivial, trivial⟩ ?_
    refine q_non_r (off := 9) (tgt := 19) (by decide +kernel) (by decide) ?_
    refine q_blk2 (pc2 := 25) (ls2 := [(2, .ref oo3), (0, .ref 1), (1, .int l1)]) (st2 := [.ref oo3, .ref 4, .ref 1]) (h2 := (q_K0, z2.1, z2.2, q_R0)) [(.aload_n 0, 0, 0, 0, 0, 0), (.aload_n 0, 0, 0, 0, 0, 0), (.getfield 27, 0, 8, 2, 0, 0), (.aload_n 2, 0, 0, 0, 0, 0)] (by decide +kernel) rfl rfl ⟨trivial, trivial, rfl, trivial, trivial⟩ ?_
    obtain ⟨⟨r6, z7⟩, hc14, h⟩ := Option.bind_eq_some_iff.mp h
    dsimp only at h
    refine q_cV1 (idx := 116) (v := .int r6) (h1 := (q_K0, z7.1, z7.2, q_R0)) [.ref oo3, .ref 4, .ref 1] 20 4 2 [.ref oo3] [.ref 1] rfl (by decide +kernel) (by decide +kernel) rfl (Nat.le_of_ble_eq_true rfl) rfl (by decide) (by decide +kernel) (by decide +kernel) (s_X2_isLeast hoo3 hc14) ?_
    refine q_if_eq (off := 7) (tgt := 35) (by decide +kernel) (by decide) (fun c28_1 => ?_) (fun c28_1 => ?_)
    · rw [if_pos c28_1] at h
      refine q_blk2 (pc2 := 36) (ls2 := [(2, .ref oo3), (0, .ref 1), (1, .int l1)]) (st2 := [.int 0, .ref 1]) (h2 := (q_K0, z7.1, z7.2, q_R0)) [(.iconst 0, 0, 0, 0, 0, 0)] (by decide +kernel) rfl rfl ⟨trivial, trivial⟩ ?_
      refine q_pick [] rfl ?_
      exact t_X9_least_36 h
    · rw [if_neg c28_1] at h
      refine q_blk2 (pc2 := 32) (ls2 := [(2, .ref oo3), (0, .ref 1), (1, .int l1)]) (st2 := [.int 1, .ref 1]) (h2 := (q_K0, z7.1, z7.2, q_R0)) [(.iconst 1, 0, 0, 0, 1, 0)] (by decide +kernel) rfl rfl ⟨trivial, trivial⟩ ?_
      refine q_goto (off := 4) (tgt := 36) (by decide +kernel) (by decide) ?_
      refine q_pick [] rfl ?_
      exact t_X9_least_36 h
/-- RootForms.step(I)I -/
def F_X9_step (z : q_Z) (l1 : Int32) : Option (Int32 × q_Z) :=
  (F_X6_at z l1).bind fun (r1, z2) =>
    match r1 with
    | none =>
      (F_X9_refuse z2 2).bind fun (r4, z5) =>
        some (r4, z5)
    | some oo3 =>
      (F_X6_remember oo3 z2 l1).bind fun (_, z7) =>
        (F_X8_reset 121 z7).bind fun (_, z9) =>
          (F_X2_advance oo3 z9).bind fun (r10, z11) =>
            (F_X8_follow 121 z11 r10).bind fun (_, z13) =>
              (F_X9_accept z13 1).bind fun (r14, z15) =>
                some (r14, z15)
set_option maxRecDepth 100000 in
set_option maxHeartbeats 4000000 in
theorem s_X9_step {z zR : q_Z} {l1 : Int32} {rv : Int32} (h : F_X9_step z l1 = some (rv, zR)) : q_Ca 63 [.ref 1, .int l1] (q_K0, z.1, z.2, q_R0) (some (.int rv)) (q_K0, zR.1, zR.2, q_R0) := by
  refine q_Ca_of (by decide) (Nat.le_of_ble_eq_true rfl) ?_
  show q_Ex none 63 0 [(0, .ref 1), (1, .int l1)] [] (q_K0, z.1, z.2, q_R0) _ _
  unfold F_X9_step at h
  refine q_blk2 (pc2 := 5) (ls2 := [(0, .ref 1), (1, .int l1)]) (st2 := [.int l1, .ref 17]) (h2 := (q_K0, z.1, z.2, q_R0)) [(.aload_n 0, 0, 0, 0, 0, 0), (.getfield 31, 0, 8, 3, 0, 0), (.iload_n 1, 0, 0, 0, 0, 0)] (by decide +kernel) rfl rfl ⟨trivial, rfl, trivial, trivial⟩ ?_
  obtain ⟨⟨r1, z2⟩, hc16, h⟩ := Option.bind_eq_some_iff.mp h
  dsimp only at h
  refine q_cV1 (idx := 109) (v := va_rf r1) (h1 := (q_K0, z2.1, z2.2, q_R0)) [.int l1, .ref 17] 44 17 6 [.int l1] [] rfl (by decide +kernel) (by decide +kernel) rfl (Nat.le_of_ble_eq_true rfl) rfl (by decide) (by decide +kernel) (by decide +kernel) (s_X6_at hc16) ?_
  rcases he17 : r1 with _ | oo3
  · rw [he17] at h
    dsimp only at h
    show q_Ex _ _ 8 [(0, .ref 1), (1, .int l1)] (.null :: []) (q_K0, z2.1, z2.2, q_R0) _ _
    refine q_blk2 (pc2 := 10) (ls2 := [(2, .null), (0, .ref 1), (1, .int l1)]) (st2 := [.null]) (h2 := (q_K0, z2.1, z2.2, q_R0)) [(.astore_n 2, 0, 0, 0, 0, 0), (.aload_n 2, 0, 0, 0, 0, 0)] (by decide +kernel) rfl rfl ⟨trivial, trivial, trivial⟩ ?_
    refine q_non_n (off := 9) (by decide +kernel) ?_
    refine q_blk2 (pc2 := 15) (ls2 := [(2, .null), (0, .ref 1), (1, .int l1)]) (st2 := [.int 2, .ref 1]) (h2 := (q_K0, z2.1, z2.2, q_R0)) [(.aload_n 0, 0, 0, 0, 0, 0), (.iconst 2, 0, 0, 0, 2, 0)] (by decide +kernel) rfl rfl ⟨trivial, trivial, trivial⟩ ?_
    obtain ⟨⟨r4, z5⟩, hc18, h⟩ := Option.bind_eq_some_iff.mp h
    dsimp only at h
    refine q_cV1 (idx := 86) (v := .int r4) (h1 := (q_K0, z5.1, z5.2, q_R0)) [.int 2, .ref 1] 89 1 8 [.int 2] [] rfl (by decide +kernel) (by decide +kernel) rfl (Nat.le_of_ble_eq_true rfl) rfl (by decide) (by decide +kernel) (by decide +kernel) (s_X9_refuse hc18) ?_
    cases h
    exact q_iret .int rfl rfl (by decide +kernel)
  · rw [he17] at h
    dsimp only at h
    show q_Ex _ _ 8 [(0, .ref 1), (1, .int l1)] (.ref oo3 :: []) (q_K0, z2.1, z2.2, q_R0) _ _
    have hoo3 : q_kk oo3 = some (.inl 1) := kf_X6_at hc16 he17
    refine q_blk2 (pc2 := 10) (ls2 := [(2, .ref oo3), (0, .ref 1), (1, .int l1)]) (st2 := [.ref oo3]) (h2 := (q_K0, z2.1, z2.2, q_R0)) [(.astore_n 2, 0, 0, 0, 0, 0), (.aload_n 2, 0, 0, 0, 0, 0)] (by decide +kernel) rfl rfl ⟨trivial, trivial, trivial⟩ ?_
    refine q_non_r (off := 9) (tgt := 19) (by decide +kernel) (by decide) ?_
    refine q_blk2 (pc2 := 25) (ls2 := [(2, .ref oo3), (0, .ref 1), (1, .int l1)]) (st2 := [.ref oo3, .int l1, .ref 17]) (h2 := (q_K0, z2.1, z2.2, q_R0)) [(.aload_n 0, 0, 0, 0, 0, 0), (.getfield 31, 0, 8, 3, 0, 0), (.iload_n 1, 0, 0, 0, 0, 0), (.aload_n 2, 0, 0, 0, 0, 0)] (by decide +kernel) rfl rfl ⟨trivial, rfl, trivial, trivial, trivial⟩ ?_
    obtain ⟨⟨_, z7⟩, hc19, h⟩ := Option.bind_eq_some_iff.mp h
    dsimp only at h
    refine q_cV0 (idx := 120) (h1 := (q_K0, z7.1, z7.2, q_R0)) [.ref oo3, .int l1, .ref 17] 46 17 6 [.int l1, .ref oo3] [] rfl (by decide +kernel) (by decide +kernel) rfl (Nat.le_of_ble_eq_true rfl) rfl (by decide) (by decide +kernel) (by decide +kernel) (s_X6_remember hoo3 hc19) ?_
    refine q_blk2 (pc2 := 32) (ls2 := [(2, .ref oo3), (0, .ref 1), (1, .int l1)]) (st2 := [.ref 121]) (h2 := (q_K0, z7.1, z7.2, q_R0)) [(.aload_n 0, 0, 0, 0, 0, 0), (.getfield 38, 0, 8, 4, 0, 0)] (by decide +kernel) rfl rfl ⟨trivial, rfl, trivial⟩ ?_
    obtain ⟨⟨_, z9⟩, hc20, h⟩ := Option.bind_eq_some_iff.mp h
    dsimp only at h
    refine q_cV0 (idx := 124) (h1 := (q_K0, z9.1, z9.2, q_R0)) [.ref 121] 54 121 7 [] [] rfl (by decide +kernel) (by decide +kernel) rfl (Nat.le_of_ble_eq_true rfl) rfl (by decide) (by decide +kernel) (by decide +kernel) (s_X8_reset rfl hc20) ?_
    refine q_blk2 (pc2 := 44) (ls2 := [(2, .ref oo3), (0, .ref 1), (1, .int l1)]) (st2 := [.ref oo3, .ref 4, .ref 121]) (h2 := (q_K0, z9.1, z9.2, q_R0)) [(.aload_n 0, 0, 0, 0, 0, 0), (.getfield 38, 0, 8, 4, 0, 0), (.aload_n 0, 0, 0, 0, 0, 0), (.getfield 27, 0, 8, 2, 0, 0), (.aload_n 2, 0, 0, 0, 0, 0)] (by decide +kernel) rfl rfl ⟨trivial, rfl, trivial, rfl, trivial, trivial⟩ ?_
    obtain ⟨⟨r10, z11⟩, hc21, h⟩ := Option.bind_eq_some_iff.mp h
    dsimp only at h
    refine q_cV1 (idx := 127) (v := .long r10) (h1 := (q_K0, z11.1, z11.2, q_R0)) [.ref oo3, .ref 4, .ref 121] 21 4 2 [.ref oo3] [.ref 121] rfl (by decide +kernel) (by decide +kernel) rfl (Nat.le_of_ble_eq_true rfl) rfl (by decide) (by decide +kernel) (by decide +kernel) (s_X2_advance hoo3 hc21) ?_
    obtain ⟨⟨_, z13⟩, hc22, h⟩ := Option.bind_eq_some_iff.mp h
    dsimp only at h
    refine q_cV0 (idx := 131) (h1 := (q_K0, z13.1, z13.2, q_R0)) [.long r10, .ref 121] 55 121 7 [.long r10] [] rfl (by decide +kernel) (by decide +kernel) rfl (Nat.le_of_ble_eq_true rfl) rfl (by decide) (by decide +kernel) (by decide +kernel) (s_X8_follow rfl hc22) ?_
    refine q_blk2 (pc2 := 52) (ls2 := [(2, .ref oo3), (0, .ref 1), (1, .int l1)]) (st2 := [.int 1, .ref 1]) (h2 := (q_K0, z13.1, z13.2, q_R0)) [(.aload_n 0, 0, 0, 0, 0, 0), (.iconst 1, 0, 0, 0, 1, 0)] (by decide +kernel) rfl rfl ⟨trivial, trivial, trivial⟩ ?_
    obtain ⟨⟨r14, z15⟩, hc23, h⟩ := Option.bind_eq_some_iff.mp h
    dsimp only at h
    refine q_cV1 (idx := 106) (v := .int r14) (h1 := (q_K0, z15.1, z15.2, q_R0)) [.int 1, .ref 1] 90 1 8 [.int 1] [] rfl (by decide +kernel) (by decide +kernel) rfl (Nat.le_of_ble_eq_true rfl) rfl (by decide) (by decide +kernel) (by decide +kernel) (s_X9_accept hc23) ?_
    cases h
    exact q_iret .int rfl rfl (by decide +kernel)
/-- RootForms.reduce(I)I -/
def F_X9_reduce (z : q_Z) (l1 : Int32) : Option (Int32 × q_Z) :=
  (F_X6_at z l1).bind fun (r1, z2) =>
    match r1 with
    | none =>
      (F_X9_refuse z2 2).bind fun (r4, z5) =>
        some (r4, z5)
    | some oo3 =>
      (F_X6_remember oo3 z2 l1).bind fun (_, z7) =>
        (F_X2_lead oo3 121 z7).bind fun (r8, z9) =>
          (F_X9_accept z9 r8).bind fun (r10, z11) =>
            some (r10, z11)
set_option maxRecDepth 100000 in
set_option maxHeartbeats 4000000 in
theorem s_X9_reduce {z zR : q_Z} {l1 : Int32} {rv : Int32} (h : F_X9_reduce z l1 = some (rv, zR)) : q_Ca 64 [.ref 1, .int l1] (q_K0, z.1, z.2, q_R0) (some (.int rv)) (q_K0, zR.1, zR.2, q_R0) := by
  refine q_Ca_of (by decide) (Nat.le_of_ble_eq_true rfl) ?_
  show q_Ex none 64 0 [(0, .ref 1), (1, .int l1)] [] (q_K0, z.1, z.2, q_R0) _ _
  unfold F_X9_reduce at h
  refine q_blk2 (pc2 := 5) (ls2 := [(0, .ref 1), (1, .int l1)]) (st2 := [.int l1, .ref 17]) (h2 := (q_K0, z.1, z.2, q_R0)) [(.aload_n 0, 0, 0, 0, 0, 0), (.getfield 31, 0, 8, 3, 0, 0), (.iload_n 1, 0, 0, 0, 0, 0)] (by decide +kernel) rfl rfl ⟨trivial, rfl, trivial, trivial⟩ ?_
  obtain ⟨⟨r1, z2⟩, hc12, h⟩ := Option.bind_eq_some_iff.mp h
  dsimp only at h
  refine q_cV1 (idx := 109) (v := va_rf r1) (h1 := (q_K0, z2.1, z2.2, q_R0)) [.int l1, .ref 17] 44 17 6 [.int l1] [] rfl (by decide +kernel) (by decide +kernel) rfl (Nat.le_of_ble_eq_true rfl) rfl (by decide) (by decide +kernel) (by decide +kernel) (s_X6_at hc12) ?_
  rcases he13 : r1 with _ | oo3
  · rw [he13] at h
    dsimp only at h
    show q_Ex _ _ 8 [(0, .ref 1), (1, .int l1)] (.null :: []) (q_K0, z2.1, z2.2, q_R0) _ _
    refine q_blk2 (pc2 := 10) (ls2 := [(2, .null), (0, .ref 1), (1, .int l1)]) (st2 := [.null]) (h2 := (q_K0, z2.1, z2.2, q_R0)) [(.astore_n 2, 0, 0, 0, 0, 0), (.aload_n 2, 0, 0, 0, 0, 0)] (by decide +kernel) rfl rfl ⟨trivial, trivial, trivial⟩ ?_
    refine q_non_n (off := 9) (by decide +kernel) ?_
    refine q_blk2 (pc2 := 15) (ls2 := [(2, .null), (0, .ref 1), (1, .int l1)]) (st2 := [.int 2, .ref 1]) (h2 := (q_K0, z2.1, z2.2, q_R0)) [(.aload_n 0, 0, 0, 0, 0, 0), (.iconst 2, 0, 0, 0, 2, 0)] (by decide +kernel) rfl rfl ⟨trivial, trivial, trivial⟩ ?_
    obtain ⟨⟨r4, z5⟩, hc14, h⟩ := Option.bind_eq_some_iff.mp h
    dsimp only at h
    refine q_cV1 (idx := 86) (v := .int r4) (h1 := (q_K0, z5.1, z5.2, q_R0)) [.int 2, .ref 1] 89 1 8 [.int 2] [] rfl (by decide +kernel) (by decide +kernel) rfl (Nat.le_of_ble_eq_true rfl) rfl (by decide) (by decide +kernel) (by decide +kernel) (s_X9_refuse hc14) ?_
    cases h
    exact q_iret .int rfl rfl (by decide +kernel)
  · rw [he13] at h
    dsimp only at h
    show q_Ex _ _ 8 [(0, .ref 1), (1, .int l1)] (.ref oo3 :: []) (q_K0, z2.1, z2.2, q_R0) _ _
    have hoo3 : q_kk oo3 = some (.inl 1) := kf_X6_at hc12 he13
    refine q_blk2 (pc2 := 10) (ls2 := [(2, .ref oo3), (0, .ref 1), (1, .int l1)]) (st2 := [.ref oo3]) (h2 := (q_K0, z2.1, z2.2, q_R0)) [(.astore_n 2, 0, 0, 0, 0, 0), (.aload_n 2, 0, 0, 0, 0, 0)] (by decide +kernel) rfl rfl ⟨trivial, trivial, trivial⟩ ?_
    refine q_non_r (off := 9) (tgt := 19) (by decide +kernel) (by decide) ?_
    refine q_blk2 (pc2 := 25) (ls2 := [(2, .ref oo3), (0, .ref 1), (1, .int l1)]) (st2 := [.ref oo3, .int l1, .ref 17]) (h2 := (q_K0, z2.1, z2.2, q_R0)) [(.aload_n 0, 0, 0, 0, 0, 0), (.getfield 31, 0, 8, 3, 0, 0), (.iload_n 1, 0, 0, 0, 0, 0), (.aload_n 2, 0, 0, 0, 0, 0)] (by decide +kernel) rfl rfl ⟨trivial, rfl, trivial, trivial, trivial⟩ ?_
    obtain ⟨⟨_, z7⟩, hc15, h⟩ := Option.bind_eq_some_iff.mp h
    dsimp only at h
    refine q_cV0 (idx := 120) (h1 := (q_K0, z7.1, z7.2, q_R0)) [.ref oo3, .int l1, .ref 17] 46 17 6 [.int l1, .ref oo3] [] rfl (by decide +kernel) (by decide +kernel) rfl (Nat.le_of_ble_eq_true rfl) rfl (by decide) (by decide +kernel) (by decide +kernel) (s_X6_remember hoo3 hc15) ?_
    refine q_blk2 (pc2 := 38) (ls2 := [(2, .ref oo3), (0, .ref 1), (1, .int l1)]) (st2 := [.ref 121, .ref oo3, .ref 4, .ref 1]) (h2 := (q_K0, z7.1, z7.2, q_R0)) [(.aload_n 0, 0, 0, 0, 0, 0), (.aload_n 0, 0, 0, 0, 0, 0), (.getfield 27, 0, 8, 2, 0, 0), (.aload_n 2, 0, 0, 0, 0, 0), (.aload_n 0, 0, 0, 0, 0, 0), (.getfield 38, 0, 8, 4, 0, 0)] (by decide +kernel) rfl rfl ⟨trivial, trivial, rfl, trivial, trivial, rfl, trivial⟩ ?_
    obtain ⟨⟨r8, z9⟩, hc16, h⟩ := Option.bind_eq_some_iff.mp h
    dsimp only at h
    refine q_cV1 (idx := 135) (v := .int r8) (h1 := (q_K0, z9.1, z9.2, q_R0)) [.ref 121, .ref oo3, .ref 4, .ref 1] 22 4 2 [.ref oo3, .ref 121] [.ref 1] rfl (by decide +kernel) (by decide +kernel) rfl (Nat.le_of_ble_eq_true rfl) rfl (by decide) (by decide +kernel) (by decide +kernel) (s_X2_lead hoo3 rfl hc16) ?_
    obtain ⟨⟨r10, z11⟩, hc17, h⟩ := Option.bind_eq_some_iff.mp h
    dsimp only at h
    refine q_cV1 (idx := 106) (v := .int r10) (h1 := (q_K0, z11.1, z11.2, q_R0)) [.int r8, .ref 1] 90 1 8 [.int r8] [] rfl (by decide +kernel) (by decide +kernel) rfl (Nat.le_of_ble_eq_true rfl) rfl (by decide) (by decide +kernel) (by decide +kernel) (s_X9_accept hc17) ?_
    cases h
    exact q_iret .int rfl rfl (by decide +kernel)
/-- RootForms.way(I)J -/
def F_X9_way (z : q_Z) (l1 : Int32) : Option (Int64 × q_Z) :=
  if l1 = (0 : Int32) then
    some (z.2 121 0, z)
  else
    if l1 = (1 : Int32) then
      some (z.2 121 1, z)
    else
      if l1 = (2 : Int32) then
        some (z.2 121 2, z)
      else
        if l1 = (3 : Int32) then
          some (z.2 121 3, z)
        else
          some (0, z)
set_option maxRecDepth 100000 in
set_option maxHeartbeats 4000000 in
theorem s_X9_way {z zR : q_Z} {l1 : Int32} {rv : Int64} (h : F_X9_way z l1 = some (rv, zR)) : q_Ca 65 [.ref 1, .int l1] (q_K0, z.1, z.2, q_R0) (some (.long rv)) (q_K0, zR.1, zR.2, q_R0) := by
  refine q_Ca_of (by decide) (Nat.le_of_ble_eq_true rfl) ?_
  show q_Ex none 65 0 [(0, .ref 1), (1, .int l1)] [] (q_K0, z.1, z.2, q_R0) _ _
  unfold F_X9_way at h
  refine q_blk2 (pc2 := 1) (ls2 := [(0, .ref 1), (1, .int l1)]) (st2 := [.int l1]) (h2 := (q_K0, z.1, z.2, q_R0)) [(.iload_n 1, 0, 0, 0, 0, 0)] (by decide +kernel) rfl rfl ⟨trivial, trivial⟩ ?_
  by_cases cw1 : l1 = (0 : Int32)
  · rw [if_pos cw1] at h
    refine q_tabI (dflt := 63) (lo := 0) (hi := 3) (offs := #[31, 39, 47, 55]) (len := 31) (off := 31) (tgt := 32) (by decide +kernel) (by rw [cw1]; decide) (by rw [cw1]; decide) (by rw [cw1]; rfl) (by decide) ?_
    refine q_blk2 (pc2 := 39) (ls2 := [(0, .ref 1), (1, .int l1)]) (st2 := [.long (z.2 121 0)]) (h2 := (q_K0, z.1, z.2, q_R0)) [(.aload_n 0, 0, 0, 0, 0, 0), (.getfield 38, 0, 8, 4, 0, 0), (.getfield 139, 0, 7, 0, 0, 0)] (by decide +kernel) rfl rfl ⟨trivial, rfl, rfl, trivial⟩ ?_
    cases h
    exact q_lret rfl (by decide +kernel)
  rw [if_neg cw1] at h
  by_cases cw2 : l1 = (1 : Int32)
  · rw [if_pos cw2] at h
    refine q_tabI (dflt := 63) (lo := 0) (hi := 3) (offs := #[31, 39, 47, 55]) (len := 31) (off := 39) (tgt := 40) (by decide +kernel) (by rw [cw2]; decide) (by rw [cw2]; decide) (by rw [cw2]; rfl) (by decide) ?_
    refine q_blk2 (pc2 := 47) (ls2 := [(0, .ref 1), (1, .int l1)]) (st2 := [.long (z.2 121 1)]) (h2 := (q_K0, z.1, z.2, q_R0)) [(.aload_n 0, 0, 0, 0, 0, 0), (.getfield 38, 0, 8, 4, 0, 0), (.getfield 142, 0, 7, 1, 0, 0)] (by decide +kernel) rfl rfl ⟨trivial, rfl, rfl, trivial⟩ ?_
    cases h
    exact q_lret rfl (by decide +kernel)
  rw [if_neg cw2] at h
  by_cases cw3 : l1 = (2 : Int32)
  · rw [if_pos cw3] at h
    refine q_tabI (dflt := 63) (lo := 0) (hi := 3) (offs := #[31, 39, 47, 55]) (len := 31) (off := 47) (tgt := 48) (by decide +kernel) (by rw [cw3]; decide) (by rw [cw3]; decide) (by rw [cw3]; rfl) (by decide) ?_
    refine q_blk2 (pc2 := 55) (ls2 := [(0, .ref 1), (1, .int l1)]) (st2 := [.long (z.2 121 2)]) (h2 := (q_K0, z.1, z.2, q_R0)) [(.aload_n 0, 0, 0, 0, 0, 0), (.getfield 38, 0, 8, 4, 0, 0), (.getfield 145, 0, 7, 2, 0, 0)] (by decide +kernel) rfl rfl ⟨trivial, rfl, rfl, trivial⟩ ?_
    cases h
    exact q_lret rfl (by decide +kernel)
  rw [if_neg cw3] at h
  by_cases cw4 : l1 = (3 : Int32)
  · rw [if_pos cw4] at h
    refine q_tabI (dflt := 63) (lo := 0) (hi := 3) (offs := #[31, 39, 47, 55]) (len := 31) (off := 55) (tgt := 56) (by decide +kernel) (by rw [cw4]; decide) (by rw [cw4]; decide) (by rw [cw4]; rfl) (by decide) ?_
    refine q_blk2 (pc2 := 63) (ls2 := [(0, .ref 1), (1, .int l1)]) (st2 := [.long (z.2 121 3)]) (h2 := (q_K0, z.1, z.2, q_R0)) [(.aload_n 0, 0, 0, 0, 0, 0), (.getfield 38, 0, 8, 4, 0, 0), (.getfield 148, 0, 7, 3, 0, 0)] (by decide +kernel) rfl rfl ⟨trivial, rfl, rfl, trivial⟩ ?_
    cases h
    exact q_lret rfl (by decide +kernel)
  rw [if_neg cw4] at h
  have e_cw1 : Int32.toInt l1 ≠ 0 := q_neI cw1
  have e_cw2 : Int32.toInt l1 ≠ 1 := q_neI cw2
  have e_cw3 : Int32.toInt l1 ≠ 2 := q_neI cw3
  have e_cw4 : Int32.toInt l1 ≠ 3 := q_neI cw4
  refine q_tabO (dflt := 63) (lo := 0) (hi := 3) (offs := #[31, 39, 47, 55]) (len := 31) (tgt := 64) (by decide +kernel) (by omega) (by decide) ?_
  refine q_blk2 (pc2 := 65) (ls2 := [(0, .ref 1), (1, .int l1)]) (st2 := [.long 0]) (h2 := (q_K0, z.1, z.2, q_R0)) [(.lconst 0, 0, 0, 0, 0, 0)] (by decide +kernel) rfl rfl ⟨trivial, trivial⟩ ?_
  cases h
  exact q_lret rfl (by decide +kernel)
/-- RootForms.ring(I)I -/
def F_X9_ring (z : q_Z) (l1 : Int32) : Option (Int32 × q_Z) :=
  (F_X6_at z l1).bind fun (r1, z2) =>
    match r1 with
    | none =>
      (F_X9_refuse z2 2).bind fun (r4, z5) =>
        some (r4, z5)
    | some oo3 =>
      if (0 : Int32) ≤ (z2.1 4 0) then
        (F_X1_copy 126 oo3 z2).bind fun (_, z7) =>
          (F_X2_lead 126 127 z7).bind fun (r8, z9) =>
            (F_X2_ringLength 126 z9).bind fun (r10, z11) =>
              (F_X9_accept z11 r10).bind fun (r12, z13) =>
                some (r12, z13)
      else
        (F_X9_refuse z2 5).bind fun (r14, z15) =>
          some (r14, z15)
set_option maxRecDepth 100000 in
set_option maxHeartbeats 4000000 in
theorem s_X9_ring {z zR : q_Z} {l1 : Int32} {rv : Int32} (h : F_X9_ring z l1 = some (rv, zR)) : q_Ca 66 [.ref 1, .int l1] (q_K0, z.1, z.2, q_R0) (some (.int rv)) (q_K0, zR.1, zR.2, q_R0) := by
  refine q_Ca_of (by decide) (Nat.le_of_ble_eq_true rfl) ?_
  show q_Ex none 66 0 [(0, .ref 1), (1, .int l1)] [] (q_K0, z.1, z.2, q_R0) _ _
  unfold F_X9_ring at h
  refine q_blk2 (pc2 := 5) (ls2 := [(0, .ref 1), (1, .int l1)]) (st2 := [.int l1, .ref 17]) (h2 := (q_K0, z.1, z.2, q_R0)) [(.aload_n 0, 0, 0, 0, 0, 0), (.getfield 31, 0, 8, 3, 0, 0), (.iload_n 1, 0, 0, 0, 0, 0)] (by decide +kernel) rfl rfl ⟨trivial, rfl, trivial, trivial⟩ ?_
  obtain ⟨⟨r1, z2⟩, hc16, h⟩ := Option.bind_eq_some_iff.mp h
  dsimp only at h
  refine q_cV1 (idx := 109) (v := va_rf r1) (h1 := (q_K0, z2.1, z2.2, q_R0)) [.int l1, .ref 17] 44 17 6 [.int l1] [] rfl (by decide +kernel) (by decide +kernel) rfl (Nat.le_of_ble_eq_true rfl) rfl (by decide) (by decide +kernel) (by decide +kernel) (s_X6_at hc16) ?_
  rcases he17 : r1 with _ | oo3
  · rw [he17] at h
    dsimp only at h
    show q_Ex _ _ 8 [(0, .ref 1), (1, .int l1)] (.null :: []) (q_K0, z2.1, z2.2, q_R0) _ _
    refine q_blk2 (pc2 := 10) (ls2 := [(2, .null), (0, .ref 1), (1, .int l1)]) (st2 := [.null]) (h2 := (q_K0, z2.1, z2.2, q_R0)) [(.astore_n 2, 0, 0, 0, 0, 0), (.aload_n 2, 0, 0, 0, 0, 0)] (by decide +kernel) rfl rfl ⟨trivial, trivial, trivial⟩ ?_
    refine q_non_n (off := 9) (by decide +kernel) ?_
    refine q_blk2 (pc2 := 15) (ls2 := [(2, .null), (0, .ref 1), (1, .int l1)]) (st2 := [.int 2, .ref 1]) (h2 := (q_K0, z2.1, z2.2, q_R0)) [(.aload_n 0, 0, 0, 0, 0, 0), (.iconst 2, 0, 0, 0, 2, 0)] (by decide +kernel) rfl rfl ⟨trivial, trivial, trivial⟩ ?_
    obtain ⟨⟨r4, z5⟩, hc18, h⟩ := Option.bind_eq_some_iff.mp h
    dsimp only at h
    refine q_cV1 (idx := 86) (v := .int r4) (h1 := (q_K0, z5.1, z5.2, q_R0)) [.int 2, .ref 1] 89 1 8 [.int 2] [] rfl (by decide +kernel) (by decide +kernel) rfl (Nat.le_of_ble_eq_true rfl) rfl (by decide) (by decide +kernel) (by decide +kernel) (s_X9_refuse hc18) ?_
    cases h
    exact q_iret .int rfl rfl (by decide +kernel)
  · rw [he17] at h
    dsimp only at h
    show q_Ex _ _ 8 [(0, .ref 1), (1, .int l1)] (.ref oo3 :: []) (q_K0, z2.1, z2.2, q_R0) _ _
    have hoo3 : q_kk oo3 = some (.inl 1) := kf_X6_at hc16 he17
    refine q_blk2 (pc2 := 10) (ls2 := [(2, .ref oo3), (0, .ref 1), (1, .int l1)]) (st2 := [.ref oo3]) (h2 := (q_K0, z2.1, z2.2, q_R0)) [(.astore_n 2, 0, 0, 0, 0, 0), (.aload_n 2, 0, 0, 0, 0, 0)] (by decide +kernel) rfl rfl ⟨trivial, trivial, trivial⟩ ?_
    refine q_non_r (off := 9) (tgt := 19) (by decide +kernel) (by decide) ?_
    refine q_blk2 (pc2 := 26) (ls2 := [(2, .ref oo3), (0, .ref 1), (1, .int l1)]) (st2 := [.int (z2.1 4 0)]) (h2 := (q_K0, z2.1, z2.2, q_R0)) [(.aload_n 0, 0, 0, 0, 0, 0), (.getfield 27, 0, 8, 2, 0, 0), (.getfield 151, 0, 2, 0, 0, 0)] (by decide +kernel) rfl rfl ⟨trivial, rfl, rfl, trivial⟩ ?_
    refine q_if_ge (off := 9) (tgt := 35) (by decide +kernel) (by decide) (fun c26_1 => ?_) (fun c26_1 => ?_)
    · rw [if_pos c26_1] at h
      refine q_blk2 (pc2 := 40) (ls2 := [(2, .ref oo3), (0, .ref 1), (1, .int l1)]) (st2 := [.ref oo3, .ref 126]) (h2 := (q_K0, z2.1, z2.2, q_R0)) [(.aload_n 0, 0, 0, 0, 0, 0), (.getfield 59, 0, 8, 7, 0, 0), (.aload_n 2, 0, 0, 0, 0, 0)] (by decide +kernel) rfl rfl ⟨trivial, rfl, trivial, trivial⟩ ?_
      obtain ⟨⟨_, z7⟩, hc19, h⟩ := Option.bind_eq_some_iff.mp h
      dsimp only at h
      refine q_cV0 (idx := 154) (h1 := (q_K0, z7.1, z7.2, q_R0)) [.ref oo3, .ref 126] 13 126 1 [.ref oo3] [] rfl (by decide +kernel) (by decide +kernel) rfl (Nat.le_of_ble_eq_true rfl) rfl (by decide) (by decide +kernel) (by decide +kernel) (s_X1_copy rfl hoo3 hc19) ?_
      refine q_blk2 (pc2 := 55) (ls2 := [(2, .ref oo3), (0, .ref 1), (1, .int l1)]) (st2 := [.ref 127, .ref 126, .ref 4]) (h2 := (q_K0, z7.1, z7.2, q_R0)) [(.aload_n 0, 0, 0, 0, 0, 0), (.getfield 27, 0, 8, 2, 0, 0), (.aload_n 0, 0, 0, 0, 0, 0), (.getfield 59, 0, 8, 7, 0, 0), (.aload_n 0, 0, 0, 0, 0, 0), (.getfield 63, 0, 8, 8, 0, 0)] (by decide +kernel) rfl rfl ⟨trivial, rfl, trivial, rfl, trivial, rfl, trivial⟩ ?_
      obtain ⟨⟨r8, z9⟩, hc20, h⟩ := Option.bind_eq_some_iff.mp h
      dsimp only at h
      refine q_cV1 (idx := 135) (v := .int r8) (h1 := (q_K0, z9.1, z9.2, q_R0)) [.ref 127, .ref 126, .ref 4] 22 4 2 [.ref 126, .ref 127] [] rfl (by decide +kernel) (by decide +kernel) rfl (Nat.le_of_ble_eq_true rfl) rfl (by decide) (by decide +kernel) (by decide +kernel) (s_X2_lead rfl rfl hc20) ?_
      refine q_blk2 (pc2 := 68) (ls2 := [(2, .ref oo3), (0, .ref 1), (1, .int l1)]) (st2 := [.ref 126, .ref 4, .ref 1]) (h2 := (q_K0, z9.1, z9.2, q_R0)) [(.pop, 0, 0, 0, 0, 0), (.aload_n 0, 0, 0, 0, 0, 0), (.aload_n 0, 0, 0, 0, 0, 0), (.getfield 27, 0, 8, 2, 0, 0), (.aload_n 0, 0, 0, 0, 0, 0), (.getfield 59, 0, 8, 7, 0, 0)] (by decide +kernel) rfl rfl ⟨trivial, trivial, trivial, rfl, trivial, rfl, trivial⟩ ?_
      obtain ⟨⟨r10, z11⟩, hc21, h⟩ := Option.bind_eq_some_iff.mp h
      dsimp only at h
      refine q_cV1 (idx := 158) (v := .int r10) (h1 := (q_K0, z11.1, z11.2, q_R0)) [.ref 126, .ref 4, .ref 1] 23 4 2 [.ref 126] [.ref 1] rfl (by decide +kernel) (by decide +kernel) rfl (Nat.le_of_ble_eq_true rfl) rfl (by decide) (by decide +kernel) (by decide +kernel) (s_X2_ringLength rfl hc21) ?_
      obtain ⟨⟨r12, z13⟩, hc22, h⟩ := Option.bind_eq_some_iff.mp h
      dsimp only at h
      refine q_cV1 (idx := 106) (v := .int r12) (h1 := (q_K0, z13.1, z13.2, q_R0)) [.int r10, .ref 1] 90 1 8 [.int r10] [] rfl (by decide +kernel) (by decide +kernel) rfl (Nat.le_of_ble_eq_true rfl) rfl (by decide) (by decide +kernel) (by decide +kernel) (s_X9_accept hc22) ?_
      cases h
      exact q_iret .int rfl rfl (by decide +kernel)
    · rw [if_neg c26_1] at h
      refine q_blk2 (pc2 := 31) (ls2 := [(2, .ref oo3), (0, .ref 1), (1, .int l1)]) (st2 := [.int 5, .ref 1]) (h2 := (q_K0, z2.1, z2.2, q_R0)) [(.aload_n 0, 0, 0, 0, 0, 0), (.iconst 5, 0, 0, 0, 5, 0)] (by decide +kernel) rfl rfl ⟨trivial, trivial, trivial⟩ ?_
      obtain ⟨⟨r14, z15⟩, hc23, h⟩ := Option.bind_eq_some_iff.mp h
      dsimp only at h
      refine q_cV1 (idx := 86) (v := .int r14) (h1 := (q_K0, z15.1, z15.2, q_R0)) [.int 5, .ref 1] 89 1 8 [.int 5] [] rfl (by decide +kernel) (by decide +kernel) rfl (Nat.le_of_ble_eq_true rfl) rfl (by decide) (by decide +kernel) (by decide +kernel) (s_X9_refuse hc23) ?_
      cases h
      exact q_iret .int rfl rfl (by decide +kernel)
/-- RootForms.classOf(I)I -/
def F_X9_classOf (z : q_Z) (l1 : Int32) : Option (Int32 × q_Z) :=
  (F_X6_at z l1).bind fun (r1, z2) =>
    match r1 with
    | none =>
      (F_X9_refuse z2 2).bind fun (r4, z5) =>
        some (r4, z5)
    | some oo3 =>
      (F_X0_prepare z2).bind fun (_, z7) =>
        (F_X0_find oo3 z7).bind fun (r8, z9) =>
          (F_X9_accept z9 r8).bind fun (r10, z11) =>
            some (r10, z11)
set_option maxRecDepth 100000 in
set_option maxHeartbeats 4000000 in
theorem s_X9_classOf {z zR : q_Z} {l1 : Int32} {rv : Int32} (h : F_X9_classOf z l1 = some (rv, zR)) : q_Ca 67 [.ref 1, .int l1] (q_K0, z.1, z.2, q_R0) (some (.int rv)) (q_K0, zR.1, zR.2, q_R0) := by
  refine q_Ca_of (by decide) (Nat.le_of_ble_eq_true rfl) ?_
  show q_Ex none 67 0 [(0, .ref 1), (1, .int l1)] [] (q_K0, z.1, z.2, q_R0) _ _
  unfold F_X9_classOf at h
  refine q_blk2 (pc2 := 5) (ls2 := [(0, .ref 1), (1, .int l1)]) (st2 := [.int l1, .ref 17]) (h2 := (q_K0, z.1, z.2, q_R0)) [(.aload_n 0, 0, 0, 0, 0, 0), (.getfield 31, 0, 8, 3, 0, 0), (.iload_n 1, 0, 0, 0, 0, 0)] (by decide +kernel) rfl rfl ⟨trivial, rfl, trivial, trivial⟩ ?_
  obtain ⟨⟨r1, z2⟩, hc12, h⟩ := Option.bind_eq_some_iff.mp h
  dsimp only at h
  refine q_cV1 (idx := 109) (v := va_rf r1) (h1 := (q_K0, z2.1, z2.2, q_R0)) [.int l1, .ref 17] 44 17 6 [.int l1] [] rfl (by decide +kernel) (by decide +kernel) rfl (Nat.le_of_ble_eq_true rfl) rfl (by decide) (by decide +kernel) (by decide +kernel) (s_X6_at hc12) ?_
  rcases he13 : r1 with _ | oo3
  · rw [he13] at h
    dsimp only at h
    show q_Ex _ _ 8 [(0, .ref 1), (1, .int l1)] (.null :: []) (q_K0, z2.1, z2.2, q_R0) _ _
    refine q_blk2 (pc2 := 10) (ls2 := [(2, .null), (0, .ref 1), (1, .int l1)]) (st2 := [.null]) (h2 := (q_K0, z2.1, z2.2, q_R0)) [(.astore_n 2, 0, 0, 0, 0, 0), (.aload_n 2, 0, 0, 0, 0, 0)] (by decide +kernel) rfl rfl ⟨trivial, trivial, trivial⟩ ?_
    refine q_non_n (off := 9) (by decide +kernel) ?_
    refine q_blk2 (pc2 := 15) (ls2 := [(2, .null), (0, .ref 1), (1, .int l1)]) (st2 := [.int 2, .ref 1]) (h2 := (q_K0, z2.1, z2.2, q_R0)) [(.aload_n 0, 0, 0, 0, 0, 0), (.iconst 2, 0, 0, 0, 2, 0)] (by decide +kernel) rfl rfl ⟨trivial, trivial, trivial⟩ ?_
    obtain ⟨⟨r4, z5⟩, hc14, h⟩ := Option.bind_eq_some_iff.mp h
    dsimp only at h
    refine q_cV1 (idx := 86) (v := .int r4) (h1 := (q_K0, z5.1, z5.2, q_R0)) [.int 2, .ref 1] 89 1 8 [.int 2] [] rfl (by decide +kernel) (by decide +kernel) rfl (Nat.le_of_ble_eq_true rfl) rfl (by decide) (by decide +kernel) (by decide +kernel) (s_X9_refuse hc14) ?_
    cases h
    exact q_iret .int rfl rfl (by decide +kernel)
  · rw [he13] at h
    dsimp only at h
    show q_Ex _ _ 8 [(0, .ref 1), (1, .int l1)] (.ref oo3 :: []) (q_K0, z2.1, z2.2, q_R0) _ _
    have hoo3 : q_kk oo3 = some (.inl 1) := kf_X6_at hc12 he13
    refine q_blk2 (pc2 := 10) (ls2 := [(2, .ref oo3), (0, .ref 1), (1, .int l1)]) (st2 := [.ref oo3]) (h2 := (q_K0, z2.1, z2.2, q_R0)) [(.astore_n 2, 0, 0, 0, 0, 0), (.aload_n 2, 0, 0, 0, 0, 0)] (by decide +kernel) rfl rfl ⟨trivial, trivial, trivial⟩ ?_
    refine q_non_r (off := 9) (tgt := 19) (by decide +kernel) (by decide) ?_
    refine q_blk2 (pc2 := 23) (ls2 := [(2, .ref oo3), (0, .ref 1), (1, .int l1)]) (st2 := [.ref 3]) (h2 := (q_K0, z2.1, z2.2, q_R0)) [(.aload_n 0, 0, 0, 0, 0, 0), (.getfield 20, 0, 8, 1, 0, 0)] (by decide +kernel) rfl rfl ⟨trivial, rfl, trivial⟩ ?_
    obtain ⟨⟨_, z7⟩, hc15, h⟩ := Option.bind_eq_some_iff.mp h
    dsimp only at h
    refine q_cV0 (idx := 161) (h1 := (q_K0, z7.1, z7.2, q_R0)) [.ref 3] 2 3 0 [] [] rfl (by decide +kernel) (by decide +kernel) rfl (Nat.le_of_ble_eq_true rfl) rfl (by decide) (by decide +kernel) (by decide +kernel) (s_X0_prepare hc15) ?_
    refine q_blk2 (pc2 := 32) (ls2 := [(2, .ref oo3), (0, .ref 1), (1, .int l1)]) (st2 := [.ref oo3, .ref 3, .ref 1]) (h2 := (q_K0, z7.1, z7.2, q_R0)) [(.aload_n 0, 0, 0, 0, 0, 0), (.aload_n 0, 0, 0, 0, 0, 0), (.getfield 20, 0, 8, 1, 0, 0), (.aload_n 2, 0, 0, 0, 0, 0)] (by decide +kernel) rfl rfl ⟨trivial, trivial, rfl, trivial, trivial⟩ ?_
    obtain ⟨⟨r8, z9⟩, hc16, h⟩ := Option.bind_eq_some_iff.mp h
    dsimp only at h
    refine q_cV1 (idx := 164) (v := .int r8) (h1 := (q_K0, z9.1, z9.2, q_R0)) [.ref oo3, .ref 3, .ref 1] 8 3 0 [.ref oo3] [.ref 1] rfl (by decide +kernel) (by decide +kernel) rfl (Nat.le_of_ble_eq_true rfl) rfl (by decide) (by decide +kernel) (by decide +kernel) (s_X0_find hoo3 hc16) ?_
    obtain ⟨⟨r10, z11⟩, hc17, h⟩ := Option.bind_eq_some_iff.mp h
    dsimp only at h
    refine q_cV1 (idx := 106) (v := .int r10) (h1 := (q_K0, z11.1, z11.2, q_R0)) [.int r8, .ref 1] 90 1 8 [.int r8] [] rfl (by decide +kernel) (by decide +kernel) rfl (Nat.le_of_ble_eq_true rfl) rfl (by decide) (by decide +kernel) (by decide +kernel) (s_X9_accept hc17) ?_
    cases h
    exact q_iret .int rfl rfl (by decide +kernel)
def T_X9_check_30 (z : q_Z) : Option (Int32 × q_Z) :=
  (F_X9_refuse z 2).bind fun (r7, z8) =>
    some (r7, z8)
set_option maxRecDepth 100000 in
set_option maxHeartbeats 4000000 in
theorem t_X9_check_30 {z zR : q_Z} {rv : Int32} (h : T_X9_check_30 z = some (rv, zR)) : q_Ex none 68 30 [(0, .ref 1)] [] (q_K0, z.1, z.2, q_R0) (some (.int rv)) (q_K0, zR.1, zR.2, q_R0) := by
  unfold T_X9_check_30 at h
  refine q_blk2 (pc2 := 32) (ls2 := [(0, .ref 1)]) (st2 := [.int 2, .ref 1]) (h2 := (q_K0, z.1, z.2, q_R0)) [(.aload_n 0, 0, 0, 0, 0, 0), (.iconst 2, 0, 0, 0, 2, 0)] (by decide +kernel) rfl rfl ⟨trivial, trivial, trivial⟩ ?_
  obtain ⟨⟨r7, z8⟩, hc9, h⟩ := Option.bind_eq_some_iff.mp h
  dsimp only at h
  refine q_cV1 (idx := 86) (v := .int r7) (h1 := (q_K0, z8.1, z8.2, q_R0)) [.int 2, .ref 1] 89 1 8 [.int 2] [] rfl (by decide +kernel) (by decide +kernel) rfl (Nat.le_of_ble_eq_true rfl) rfl (by decide) (by decide +kernel) (by decide +kernel) (s_X9_refuse hc9) ?_
  cases h
  exact q_iret .int rfl rfl (by decide +kernel)
def T_X9_check_67 (z : q_Z) : Option (Int32 × q_Z) :=
  (F_X9_refuse z 1).bind fun (r15, z16) =>
    some (r15, z16)
set_option maxRecDepth 100000 in
set_option maxHeartbeats 4000000 in
theorem t_X9_check_67 {z zR : q_Z} {rv : Int32} (h : T_X9_check_67 z = some (rv, zR)) : q_Ex none 68 67 [(0, .ref 1)] [] (q_K0, z.1, z.2, q_R0) (some (.int rv)) (q_K0, zR.1, zR.2, q_R0) := by
  unfold T_X9_check_67 at h
  refine q_blk2 (pc2 := 69) (ls2 := [(0, .ref 1)]) (st2 := [.int 1, .ref 1]) (h2 := (q_K0, z.1, z.2, q_R0)) [(.aload_n 0, 0, 0, 0, 0, 0), (.iconst 1, 0, 0, 0, 1, 0)] (by decide +kernel) rfl rfl ⟨trivial, trivial, trivial⟩ ?_
  obtain ⟨⟨r15, z16⟩, hc17, h⟩ := Option.bind_eq_some_iff.mp h
  dsimp only at h
  refine q_cV1 (idx := 86) (v := .int r15) (h1 := (q_K0, z16.1, z16.2, q_R0)) [.int 1, .ref 1] 89 1 8 [.int 1] [] rfl (by decide +kernel) (by decide +kernel) rfl (Nat.le_of_ble_eq_true rfl) rfl (by decide) (by decide +kernel) (by decide +kernel) (s_X9_refuse hc17) ?_
  cases h
  exact q_iret .int rfl rfl (by decide +kernel)
def T_X9_check_130 (z : q_Z) (t0 : Int32) : Option (Int32 × q_Z) :=
  (F_X9_accept z t0).bind fun (r30, z31) =>
    some (r30, z31)
set_option maxRecDepth 100000 in
set_option maxHeartbeats 4000000 in
theorem t_X9_check_130 {z zR : q_Z} {t0 : Int32} {rv : Int32} (h : T_X9_check_130 z t0 = some (rv, zR)) : q_Ex none 68 130 [] [.int t0, .ref 1] (q_K0, z.1, z.2, q_R0) (some (.int rv)) (q_K0, zR.1, zR.2, q_R0) := by
  unfold T_X9_check_130 at h
  obtain ⟨⟨r30, z31⟩, hc32, h⟩ := Option.bind_eq_some_iff.mp h
  dsimp only at h
  refine q_cV1 (idx := 106) (v := .int r30) (h1 := (q_K0, z31.1, z31.2, q_R0)) [.int t0, .ref 1] 90 1 8 [.int t0] [] rfl (by decide +kernel) (by decide +kernel) rfl (Nat.le_of_ble_eq_true rfl) rfl (by decide) (by decide +kernel) (by decide +kernel) (s_X9_accept hc32) ?_
  cases h
  exact q_iret .int rfl rfl (by decide +kernel)
/-- RootForms.check(IIIIII)I -/
def F_X9_check (z : q_Z) (l1 : Int32) (l2 : Int32) (l3 : Int32) (l4 : Int32) (l5 : Int32) (l6 : Int32) : Option (Int32 × q_Z) :=
  (F_X6_at z l1).bind fun (r1, z2) =>
    match r1 with
    | none =>
      (F_X6_at z2 l2).bind fun (r4, z5) =>
        match r4 with
        | none =>
          T_X9_check_30 z5
        | some oo6 =>
          T_X9_check_30 z5
    | some oo3 =>
      (F_X6_at z2 l2).bind fun (r10, z11) =>
        match r10 with
        | none =>
          T_X9_check_30 z11
        | some oo12 =>
          (F_X9_isBeyond z11 l3).bind fun (r13, z14) =>
            if r13 = (0 : Int32) then
              (F_X9_isBeyond z14 l4).bind fun (r18, z19) =>
                if r18 = (0 : Int32) then
                  (F_X9_isBeyond z19 l5).bind fun (r20, z21) =>
                    if r20 = (0 : Int32) then
                      (F_X9_isBeyond z21 l6).bind fun (r22, z23) =>
                        if r22 = (0 : Int32) then
                          (F_X8_put 127 z23 (Int32.toInt64 l3) (Int32.toInt64 l4) (Int32.toInt64 l5) (Int32.toInt64 l6)).bind fun (_, z25) =>
                            (F_X8_worth 127 z25).bind fun (r26, z27) =>
                              if r26 = (1 : Int64) then
                                (F_X8_leads 127 oo3 oo12 z27).bind fun (r28, z29) =>
                                  if r28 = (0 : Int32) then
                                    T_X9_check_130 z29 0
                                  else
                                    T_X9_check_130 z29 1
                              else
                                (F_X9_refuse z27 7).bind fun (r33, z34) =>
                                  some (r33, z34)
                        else
                          T_X9_check_67 z23
                    else
                      T_X9_check_67 z21
                else
                  T_X9_check_67 z19
            else
              T_X9_check_67 z14
set_option maxRecDepth 100000 in
set_option maxHeartbeats 4000000 in
theorem s_X9_check {z zR : q_Z} {l1 : Int32} {l2 : Int32} {l3 : Int32} {l4 : Int32} {l5 : Int32} {l6 : Int32} {rv : Int32} (h : F_X9_check z l1 l2 l3 l4 l5 l6 = some (rv, zR)) : q_Ca 68 [.ref 1, .int l1, .int l2, .int l3, .int l4, .int l5, .int l6] (q_K0, z.1, z.2, q_R0) (some (.int rv)) (q_K0, zR.1, zR.2, q_R0) := by
  refine q_Ca_of (by decide) (Nat.le_of_ble_eq_true rfl) ?_
  show q_Ex none 68 0 [(0, .ref 1), (1, .int l1), (2, .int l2), (3, .int l3), (4, .int l4), (5, .int l5), (6, .int l6)] [] (q_K0, z.1, z.2, q_R0) _ _
  unfold F_X9_check at h
  refine q_blk2 (pc2 := 5) (ls2 := [(0, .ref 1), (1, .int l1), (2, .int l2), (3, .int l3), (4, .int l4), (5, .int l5), (6, .int l6)]) (st2 := [.int l1, .ref 17]) (h2 := (q_K0, z.1, z.2, q_R0)) [(.aload_n 0, 0, 0, 0, 0, 0), (.getfield 31, 0, 8, 3, 0, 0), (.iload_n 1, 0, 0, 0, 0, 0)] (by decide +kernel) rfl rfl ⟨trivial, rfl, trivial, trivial⟩ ?_
  obtain ⟨⟨r1, z2⟩, hc35, h⟩ := Option.bind_eq_some_iff.mp h
  dsimp only at h
  refine q_cV1 (idx := 109) (v := va_rf r1) (h1 := (q_K0, z2.1, z2.2, q_R0)) [.int l1, .ref 17] 44 17 6 [.int l1] [] rfl (by decide +kernel) (by decide +kernel) rfl (Nat.le_of_ble_eq_true rfl) rfl (by decide) (by decide +kernel) (by decide +kernel) (s_X6_at hc35) ?_
  rcases he36 : r1 with _ | oo3
  · rw [he36] at h
    dsimp only at h
    show q_Ex _ _ 8 [(0, .ref 1), (1, .int l1), (2, .int l2), (3, .int l3), (4, .int l4), (5, .int l5), (6, .int l6)] (.null :: []) (q_K0, z2.1, z2.2, q_R0) _ _
    refine q_blk2 (pc2 := 15) (ls2 := [(7, .null), (0, .ref 1), (1, .int l1), (2, .int l2), (3, .int l3), (4, .int l4), (5, .int l5), (6, .int l6)]) (st2 := [.int l2, .ref 17]) (h2 := (q_K0, z2.1, z2.2, q_R0)) [(.astore 7, 0, 0, 0, 0, 0), (.aload_n 0, 0, 0, 0, 0, 0), (.getfield 31, 0, 8, 3, 0, 0), (.iload_n 2, 0, 0, 0, 0, 0)] (by decide +kernel) rfl rfl ⟨trivial, trivial, rfl, trivial, trivial⟩ ?_
    obtain ⟨⟨r4, z5⟩, hc37, h⟩ := Option.bind_eq_some_iff.mp h
    dsimp only at h
    refine q_cV1 (idx := 109) (v := va_rf r4) (h1 := (q_K0, z5.1, z5.2, q_R0)) [.int l2, .ref 17] 44 17 6 [.int l2] [] rfl (by decide +kernel) (by decide +kernel) rfl (Nat.le_of_ble_eq_true rfl) rfl (by decide) (by decide +kernel) (by decide +kernel) (s_X6_at hc37) ?_
    rcases he38 : r4 with _ | oo6
    · rw [he38] at h
      dsimp only at h
      show q_Ex _ _ 18 [(7, .null), (0, .ref 1), (1, .int l1), (2, .int l2), (3, .int l3), (4, .int l4), (5, .int l5), (6, .int l6)] (.null :: []) (q_K0, z5.1, z5.2, q_R0) _ _
      refine q_blk2 (pc2 := 22) (ls2 := [(8, .null), (7, .null), (0, .ref 1), (1, .int l1), (2, .int l2), (3, .int l3), (4, .int l4), (5, .int l5), (6, .int l6)]) (st2 := [.null]) (h2 := (q_K0, z5.1, z5.2, q_R0)) [(.astore 8, 0, 0, 0, 0, 0), (.aload 7, 0, 0, 0, 0, 0)] (by decide +kernel) rfl rfl ⟨trivial, trivial, trivial⟩ ?_
      refine q_nul_n (off := 8) (tgt := 30) (by decide +kernel) (by decide) ?_
      refine q_pick [2] rfl ?_
      exact t_X9_check_30 h
    · rw [he38] at h
      dsimp only at h
      show q_Ex _ _ 18 [(7, .null), (0, .ref 1), (1, .int l1), (2, .int l2), (3, .int l3), (4, .int l4), (5, .int l5), (6, .int l6)] (.ref oo6 :: []) (q_K0, z5.1, z5.2, q_R0) _ _
      have hoo6 : q_kk oo6 = some (.inl 1) := kf_X6_at hc37 he38
      refine q_blk2 (pc2 := 22) (ls2 := [(8, .ref oo6), (7, .null), (0, .ref 1), (1, .int l1), (2, .int l2), (3, .int l3), (4, .int l4), (5, .int l5), (6, .int l6)]) (st2 := [.null]) (h2 := (q_K0, z5.1, z5.2, q_R0)) [(.astore 8, 0, 0, 0, 0, 0), (.aload 7, 0, 0, 0, 0, 0)] (by decide +kernel) rfl rfl ⟨trivial, trivial, trivial⟩ ?_
      refine q_nul_n (off := 8) (tgt := 30) (by decide +kernel) (by decide) ?_
      refine q_pick [2] rfl ?_
      exact t_X9_check_30 h
  · rw [he36] at h
    dsimp only at h
    show q_Ex _ _ 8 [(0, .ref 1), (1, .int l1), (2, .int l2), (3, .int l3), (4, .int l4), (5, .int l5), (6, .int l6)] (.ref oo3 :: []) (q_K0, z2.1, z2.2, q_R0) _ _
    have hoo3 : q_kk oo3 = some (.inl 1) := kf_X6_at hc35 he36
    refine q_blk2 (pc2 := 15) (ls2 := [(7, .ref oo3), (0, .ref 1), (1, .int l1), (2, .int l2), (3, .int l3), (4, .int l4), (5, .int l5), (6, .int l6)]) (st2 := [.int l2, .ref 17]) (h2 := (q_K0, z2.1, z2.2, q_R0)) [(.astore 7, 0, 0, 0, 0, 0), (.aload_n 0, 0, 0, 0, 0, 0), (.getfield 31, 0, 8, 3, 0, 0), (.iload_n 2, 0, 0, 0, 0, 0)] (by decide +kernel) rfl rfl ⟨trivial, trivial, rfl, trivial, trivial⟩ ?_
    obtain ⟨⟨r10, z11⟩, hc39, h⟩ := Option.bind_eq_some_iff.mp h
    dsimp only at h
    refine q_cV1 (idx := 109) (v := va_rf r10) (h1 := (q_K0, z11.1, z11.2, q_R0)) [.int l2, .ref 17] 44 17 6 [.int l2] [] rfl (by decide +kernel) (by decide +kernel) rfl (Nat.le_of_ble_eq_true rfl) rfl (by decide) (by decide +kernel) (by decide +kernel) (s_X6_at hc39) ?_
    rcases he40 : r10 with _ | oo12
    · rw [he40] at h
      dsimp only at h
      show q_Ex _ _ 18 [(7, .ref oo3), (0, .ref 1), (1, .int l1), (2, .int l2), (3, .int l3), (4, .int l4), (5, .int l5), (6, .int l6)] (.null :: []) (q_K0, z11.1, z11.2, q_R0) _ _
      refine q_blk2 (pc2 := 22) (ls2 := [(8, .null), (7, .ref oo3), (0, .ref 1), (1, .int l1), (2, .int l2), (3, .int l3), (4, .int l4), (5, .int l5), (6, .int l6)]) (st2 := [.ref oo3]) (h2 := (q_K0, z11.1, z11.2, q_R0)) [(.astore 8, 0, 0, 0, 0, 0), (.aload 7, 0, 0, 0, 0, 0)] (by decide +kernel) rfl rfl ⟨trivial, trivial, trivial⟩ ?_
      refine q_nul_r (off := 8) (by decide +kernel) ?_
      refine q_blk2 (pc2 := 27) (ls2 := [(8, .null), (7, .ref oo3), (0, .ref 1), (1, .int l1), (2, .int l2), (3, .int l3), (4, .int l4), (5, .int l5), (6, .int l6)]) (st2 := [.null]) (h2 := (q_K0, z11.1, z11.2, q_R0)) [(.aload 8, 0, 0, 0, 0, 0)] (by decide +kernel) rfl rfl ⟨trivial, trivial⟩ ?_
      refine q_non_n (off := 9) (by decide +kernel) ?_
      refine q_pick [2] rfl ?_
      exact t_X9_check_30 h
    · rw [he40] at h
      dsimp only at h
      show q_Ex _ _ 18 [(7, .ref oo3), (0, .ref 1), (1, .int l1), (2, .int l2), (3, .int l3), (4, .int l4), (5, .int l5), (6, .int l6)] (.ref oo12 :: []) (q_K0, z11.1, z11.2, q_R0) _ _
      have hoo12 : q_kk oo12 = some (.inl 1) := kf_X6_at hc39 he40
      refine q_blk2 (pc2 := 22) (ls2 := [(8, .ref oo12), (7, .ref oo3), (0, .ref 1), (1, .int l1), (2, .int l2), (3, .int l3), (4, .int l4), (5, .int l5), (6, .int l6)]) (st2 := [.ref oo3]) (h2 := (q_K0, z11.1, z11.2, q_R0)) [(.astore 8, 0, 0, 0, 0, 0), (.aload 7, 0, 0, 0, 0, 0)] (by decide +kernel) rfl rfl ⟨trivial, trivial, trivial⟩ ?_
      refine q_nul_r (off := 8) (by decide +kernel) ?_
      refine q_blk2 (pc2 := 27) (ls2 := [(8, .ref oo12), (7, .ref oo3), (0, .ref 1), (1, .int l1), (2, .int l2), (3, .int l3), (4, .int l4), (5, .int l5), (6, .int l6)]) (st2 := [.ref oo12]) (h2 := (q_K0, z11.1, z11.2, q_R0)) [(.aload 8, 0, 0, 0, 0, 0)] (by decide +kernel) rfl rfl ⟨trivial, trivial⟩ ?_
      refine q_non_r (off := 9) (tgt := 36) (by decide +kernel) (by decide) ?_
      refine q_blk2 (pc2 := 37) (ls2 := [(8, .ref oo12), (7, .ref oo3), (0, .ref 1), (1, .int l1), (2, .int l2), (3, .int l3), (4, .int l4), (5, .int l5), (6, .int l6)]) (st2 := [.int l3]) (h2 := (q_K0, z11.1, z11.2, q_R0)) [(.iload_n 3, 0, 0, 0, 0, 0)] (by decide +kernel) rfl rfl ⟨trivial, trivial⟩ ?_
      obtain ⟨⟨r13, z14⟩, hc41, h⟩ := Option.bind_eq_some_iff.mp h
      dsimp only at h
      refine q_cS1 (idx := 83) (v := .int r13) (h1 := (q_K0, z14.1, z14.2, q_R0)) [.int l3] 91 [.int l3] [] rfl (by decide +kernel) (by decide +kernel) rfl (Nat.le_of_ble_eq_true rfl) (by decide +kernel) (s_X9_isBeyond hc41) ?_
      refine q_if_ne (off := 27) (tgt := 67) (by decide +kernel) (by decide) (fun c40_1 => ?_) (fun c40_1 => ?_)
      · rw [if_neg c40_1] at h
        refine q_pick [2] rfl ?_
        exact t_X9_check_67 h
      · rw [if_pos c40_1] at h
        refine q_blk2 (pc2 := 45) (ls2 := [(8, .ref oo12), (7, .ref oo3), (0, .ref 1), (1, .int l1), (2, .int l2), (3, .int l3), (4, .int l4), (5, .int l5), (6, .int l6)]) (st2 := [.int l4]) (h2 := (q_K0, z14.1, z14.2, q_R0)) [(.iload 4, 0, 0, 0, 0, 0)] (by decide +kernel) rfl rfl ⟨trivial, trivial⟩ ?_
        obtain ⟨⟨r18, z19⟩, hc42, h⟩ := Option.bind_eq_some_iff.mp h
        dsimp only at h
        refine q_cS1 (idx := 83) (v := .int r18) (h1 := (q_K0, z19.1, z19.2, q_R0)) [.int l4] 91 [.int l4] [] rfl (by decide +kernel) (by decide +kernel) rfl (Nat.le_of_ble_eq_true rfl) (by decide +kernel) (s_X9_isBeyond hc42) ?_
        refine q_if_ne (off := 19) (tgt := 67) (by decide +kernel) (by decide) (fun c48_2 => ?_) (fun c48_2 => ?_)
        · rw [if_neg c48_2] at h
          refine q_pick [2] rfl ?_
          exact t_X9_check_67 h
        · rw [if_pos c48_2] at h
          refine q_blk2 (pc2 := 53) (ls2 := [(8, .ref oo12), (7, .ref oo3), (0, .ref 1), (1, .int l1), (2, .int l2), (3, .int l3), (4, .int l4), (5, .int l5), (6, .int l6)]) (st2 := [.int l5]) (h2 := (q_K0, z19.1, z19.2, q_R0)) [(.iload 5, 0, 0, 0, 0, 0)] (by decide +kernel) rfl rfl ⟨trivial, trivial⟩ ?_
          obtain ⟨⟨r20, z21⟩, hc43, h⟩ := Option.bind_eq_some_iff.mp h
          dsimp only at h
          refine q_cS1 (idx := 83) (v := .int r20) (h1 := (q_K0, z21.1, z21.2, q_R0)) [.int l5] 91 [.int l5] [] rfl (by decide +kernel) (by decide +kernel) rfl (Nat.le_of_ble_eq_true rfl) (by decide +kernel) (s_X9_isBeyond hc43) ?_
          refine q_if_ne (off := 11) (tgt := 67) (by decide +kernel) (by decide) (fun c56_3 => ?_) (fun c56_3 => ?_)
          · rw [if_neg c56_3] at h
            refine q_pick [2] rfl ?_
            exact t_X9_check_67 h
          · rw [if_pos c56_3] at h
            refine q_blk2 (pc2 := 61) (ls2 := [(8, .ref oo12), (7, .ref oo3), (0, .ref 1), (1, .int l1), (2, .int l2), (3, .int l3), (4, .int l4), (5, .int l5), (6, .int l6)]) (st2 := [.int l6]) (h2 := (q_K0, z21.1, z21.2, q_R0)) [(.iload 6, 0, 0, 0, 0, 0)] (by decide +kernel) rfl rfl ⟨trivial, trivial⟩ ?_
            obtain ⟨⟨r22, z23⟩, hc44, h⟩ := Option.bind_eq_some_iff.mp h
            dsimp only at h
            refine q_cS1 (idx := 83) (v := .int r22) (h1 := (q_K0, z23.1, z23.2, q_R0)) [.int l6] 91 [.int l6] [] rfl (by decide +kernel) (by decide +kernel) rfl (Nat.le_of_ble_eq_true rfl) (by decide +kernel) (s_X9_isBeyond hc44) ?_
            refine q_if_eq (off := 9) (tgt := 73) (by decide +kernel) (by decide) (fun c64_4 => ?_) (fun c64_4 => ?_)
            · rw [if_pos c64_4] at h
              refine q_blk2 (pc2 := 88) (ls2 := [(8, .ref oo12), (7, .ref oo3), (0, .ref 1), (1, .int l1), (2, .int l2), (3, .int l3), (4, .int l4), (5, .int l5), (6, .int l6)]) (st2 := [.long (Int32.toInt64 l6), .long (Int32.toInt64 l5), .long (Int32.toInt64 l4), .long (Int32.toInt64 l3), .ref 127]) (h2 := (q_K0, z23.1, z23.2, q_R0)) [(.aload_n 0, 0, 0, 0, 0, 0), (.getfield 63, 0, 8, 8, 0, 0), (.iload_n 3, 0, 0, 0, 0, 0), (.i2l, 0, 0, 0, 0, 0), (.iload 4, 0, 0, 0, 0, 0), (.i2l, 0, 0, 0, 0, 0), (.iload 5, 0, 0, 0, 0, 0), (.i2l, 0, 0, 0, 0, 0), (.iload 6, 0, 0, 0, 0, 0), (.i2l, 0, 0, 0, 0, 0)] (by decide +kernel) rfl rfl ⟨trivial, rfl, trivial, trivial, trivial, trivial, trivial, trivial, trivial, trivial, trivial⟩ ?_
              obtain ⟨⟨_, z25⟩, hc45, h⟩ := Option.bind_eq_some_iff.mp h
              dsimp only at h
              refine q_cV0 (idx := 167) (h1 := (q_K0, z25.1, z25.2, q_R0)) [.long (Int32.toInt64 l6), .long (Int32.toInt64 l5), .long (Int32.toInt64 l4), .long (Int32.toInt64 l3), .ref 127] 53 127 7 [.long (Int32.toInt64 l3), .long (Int32.toInt64 l4), .long (Int32.toInt64 l5), .long (Int32.toInt64 l6)] [] rfl (by decide +kernel) (by decide +kernel) rfl (Nat.le_of_ble_eq_true rfl) rfl (by decide) (by decide +kernel) (by decide +kernel) (s_X8_put rfl hc45) ?_
              refine q_blk2 (pc2 := 95) (ls2 := [(8, .ref oo12), (7, .ref oo3), (0, .ref 1), (1, .int l1), (2, .int l2), (3, .int l3), (4, .int l4), (5, .int l5), (6, .int l6)]) (st2 := [.ref 127]) (h2 := (q_K0, z25.1, z25.2, q_R0)) [(.aload_n 0, 0, 0, 0, 0, 0), (.getfield 63, 0, 8, 8, 0, 0)] (by decide +kernel) rfl rfl ⟨trivial, rfl, trivial⟩ ?_
              obtain ⟨⟨r26, z27⟩, hc46, h⟩ := Option.bind_eq_some_iff.mp h
              dsimp only at h
              refine q_cV1 (idx := 171) (v := .long r26) (h1 := (q_K0, z27.1, z27.2, q_R0)) [.ref 127] 56 127 7 [] [] rfl (by decide +kernel) (by decide +kernel) rfl (Nat.le_of_ble_eq_true rfl) rfl (by decide) (by decide +kernel) (by decide +kernel) (s_X8_worth rfl hc46) ?_
              refine q_blk2 (pc2 := 99) (ls2 := [(8, .ref oo12), (7, .ref oo3), (0, .ref 1), (1, .int l1), (2, .int l2), (3, .int l3), (4, .int l4), (5, .int l5), (6, .int l6)]) (st2 := [.long 1, .long r26]) (h2 := (q_K0, z27.1, z27.2, q_R0)) [(.lconst 1, 0, 0, 0, 0, 1)] (by decide +kernel) rfl rfl ⟨trivial, trivial⟩ ?_
              refine q_lc_eq (off := 10) (tgt := 110) (by decide +kernel) (by decide +kernel) (by decide) (fun c99_5 => ?_) (fun c99_5 => ?_)
              · rw [if_pos c99_5] at h
                refine q_blk2 (pc2 := 119) (ls2 := [(8, .ref oo12), (7, .ref oo3), (0, .ref 1), (1, .int l1), (2, .int l2), (3, .int l3), (4, .int l4), (5, .int l5), (6, .int l6)]) (st2 := [.ref oo12, .ref oo3, .ref 127, .ref 1]) (h2 := (q_K0, z27.1, z27.2, q_R0)) [(.aload_n 0, 0, 0, 0, 0, 0), (.aload_n 0, 0, 0, 0, 0, 0), (.getfield 63, 0, 8, 8, 0, 0), (.aload 7, 0, 0, 0, 0, 0), (.aload 8, 0, 0, 0, 0, 0)] (by decide +kernel) rfl rfl ⟨trivial, trivial, rfl, trivial, trivial, trivial⟩ ?_
                obtain ⟨⟨r28, z29⟩, hc47, h⟩ := Option.bind_eq_some_iff.mp h
                dsimp only at h
                refine q_cV1 (idx := 175) (v := .int r28) (h1 := (q_K0, z29.1, z29.2, q_R0)) [.ref oo12, .ref oo3, .ref 127, .ref 1] 57 127 7 [.ref oo3, .ref oo12] [.ref 1] rfl (by decide +kernel) (by decide +kernel) rfl (Nat.le_of_ble_eq_true rfl) rfl (by decide) (by decide +kernel) (by decide +kernel) (s_X8_leads rfl hoo3 hoo12 hc47) ?_
                refine q_if_eq (off := 7) (tgt := 129) (by decide +kernel) (by decide) (fun c122_6 => ?_) (fun c122_6 => ?_)
                · rw [if_pos c122_6] at h
                  refine q_blk2 (pc2 := 130) (ls2 := [(8, .ref oo12), (7, .ref oo3), (0, .ref 1), (1, .int l1), (2, .int l2), (3, .int l3), (4, .int l4), (5, .int l5), (6, .int l6)]) (st2 := [.int 0, .ref 1]) (h2 := (q_K0, z29.1, z29.2, q_R0)) [(.iconst 0, 0, 0, 0, 0, 0)] (by decide +kernel) rfl rfl ⟨trivial, trivial⟩ ?_
                  refine q_pick [] rfl ?_
                  exact t_X9_check_130 h
                · rw [if_neg c122_6] at h
                  refine q_blk2 (pc2 := 126) (ls2 := [(8, .ref oo12), (7, .ref oo3), (0, .ref 1), (1, .int l1), (2, .int l2), (3, .int l3), (4, .int l4), (5, .int l5), (6, .int l6)]) (st2 := [.int 1, .ref 1]) (h2 := (q_K0, z29.1, z29.2, q_R0)) [(.iconst 1, 0, 0, 0, 1, 0)] (by decide +kernel) rfl rfl ⟨trivial, trivial⟩ ?_
                  refine q_goto (off := 4) (tgt := 130) (by decide +kernel) (by decide) ?_
                  refine q_pick [] rfl ?_
                  exact t_X9_check_130 h
              · rw [if_neg c99_5] at h
                refine q_blk2 (pc2 := 106) (ls2 := [(8, .ref oo12), (7, .ref oo3), (0, .ref 1), (1, .int l1), (2, .int l2), (3, .int l3), (4, .int l4), (5, .int l5), (6, .int l6)]) (st2 := [.int 7, .ref 1]) (h2 := (q_K0, z27.1, z27.2, q_R0)) [(.aload_n 0, 0, 0, 0, 0, 0), (.bipush 7, 0, 0, 0, 7, 0)] (by decide +kernel) rfl rfl ⟨trivial, trivial, trivial⟩ ?_
                obtain ⟨⟨r33, z34⟩, hc48, h⟩ := Option.bind_eq_some_iff.mp h
                dsimp only at h
                refine q_cV1 (idx := 86) (v := .int r33) (h1 := (q_K0, z34.1, z34.2, q_R0)) [.int 7, .ref 1] 89 1 8 [.int 7] [] rfl (by decide +kernel) (by decide +kernel) rfl (Nat.le_of_ble_eq_true rfl) rfl (by decide) (by decide +kernel) (by decide +kernel) (s_X9_refuse hc48) ?_
                cases h
                exact q_iret .int rfl rfl (by decide +kernel)
            · rw [if_neg c64_4] at h
              refine q_pick [2] rfl ?_
              exact t_X9_check_67 h
/-- RootForms.classes()I -/
def F_X9_classes (z : q_Z) : Option (Int32 × q_Z) :=
  (F_X0_prepare z).bind fun (_, z2) =>
    some (z2.1 3 10, z2)
set_option maxRecDepth 100000 in
set_option maxHeartbeats 4000000 in
theorem s_X9_classes {z zR : q_Z} {rv : Int32} (h : F_X9_classes z = some (rv, zR)) : q_Ca 69 [.ref 1] (q_K0, z.1, z.2, q_R0) (some (.int rv)) (q_K0, zR.1, zR.2, q_R0) := by
  refine q_Ca_of (by decide) (Nat.le_of_ble_eq_true rfl) ?_
  show q_Ex none 69 0 [(0, .ref 1)] [] (q_K0, z.1, z.2, q_R0) _ _
  unfold F_X9_classes at h
  refine q_blk2 (pc2 := 4) (ls2 := [(0, .ref 1)]) (st2 := [.ref 3]) (h2 := (q_K0, z.1, z.2, q_R0)) [(.aload_n 0, 0, 0, 0, 0, 0), (.getfield 20, 0, 8, 1, 0, 0)] (by decide +kernel) rfl rfl ⟨trivial, rfl, trivial⟩ ?_
  obtain ⟨⟨_, z2⟩, hc3, h⟩ := Option.bind_eq_some_iff.mp h
  dsimp only at h
  refine q_cV0 (idx := 161) (h1 := (q_K0, z2.1, z2.2, q_R0)) [.ref 3] 2 3 0 [] [] rfl (by decide +kernel) (by decide +kernel) rfl (Nat.le_of_ble_eq_true rfl) rfl (by decide) (by decide +kernel) (by decide +kernel) (s_X0_prepare hc3) ?_
  refine q_blk2 (pc2 := 14) (ls2 := [(0, .ref 1)]) (st2 := [.int (z2.1 3 10)]) (h2 := (q_K0, z2.1, z2.2, q_R0)) [(.aload_n 0, 0, 0, 0, 0, 0), (.getfield 20, 0, 8, 1, 0, 0), (.getfield 179, 0, 0, 10, 0, 0)] (by decide +kernel) rfl rfl ⟨trivial, rfl, rfl, trivial⟩ ?_
  cases h
  exact q_iret .int rfl rfl (by decide +kernel)
/-- RootForms.head(II)I -/
def F_X9_head (z : q_Z) (l1 : Int32) (l2 : Int32) : Option (Int32 × q_Z) :=
  (F_X0_prepare z).bind fun (_, z2) =>
    (F_X0_hasClass z2 l1).bind fun (r3, z4) =>
      if r3 = (0 : Int32) then
        some (0, z4)
      else
        (F_X0_copyHead 126 z4 l1).bind fun (_, z6) =>
          (F_X1_part 126 z6 l2).bind fun (r7, z8) =>
            some (r7, z8)
set_option maxRecDepth 100000 in
set_option maxHeartbeats 4000000 in
theorem s_X9_head {z zR : q_Z} {l1 : Int32} {l2 : Int32} {rv : Int32} (h : F_X9_head z l1 l2 = some (rv, zR)) : q_Ca 70 [.ref 1, .int l1, .int l2] (q_K0, z.1, z.2, q_R0) (some (.int rv)) (q_K0, zR.1, zR.2, q_R0) := by
  refine q_Ca_of (by decide) (Nat.le_of_ble_eq_true rfl) ?_
  show q_Ex none 70 0 [(0, .ref 1), (1, .int l1), (2, .int l2)] [] (q_K0, z.1, z.2, q_R0) _ _
  unfold F_X9_head at h
  refine q_blk2 (pc2 := 4) (ls2 := [(0, .ref 1), (1, .int l1), (2, .int l2)]) (st2 := [.ref 3]) (h2 := (q_K0, z.1, z.2, q_R0)) [(.aload_n 0, 0, 0, 0, 0, 0), (.getfield 20, 0, 8, 1, 0, 0)] (by decide +kernel) rfl rfl ⟨trivial, rfl, trivial⟩ ?_
  obtain ⟨⟨_, z2⟩, hc9, h⟩ := Option.bind_eq_some_iff.mp h
  dsimp only at h
  refine q_cV0 (idx := 161) (h1 := (q_K0, z2.1, z2.2, q_R0)) [.ref 3] 2 3 0 [] [] rfl (by decide +kernel) (by decide +kernel) rfl (Nat.le_of_ble_eq_true rfl) rfl (by decide) (by decide +kernel) (by decide +kernel) (s_X0_prepare hc9) ?_
  refine q_blk2 (pc2 := 12) (ls2 := [(0, .ref 1), (1, .int l1), (2, .int l2)]) (st2 := [.int l1, .ref 3]) (h2 := (q_K0, z2.1, z2.2, q_R0)) [(.aload_n 0, 0, 0, 0, 0, 0), (.getfield 20, 0, 8, 1, 0, 0), (.iload_n 1, 0, 0, 0, 0, 0)] (by decide +kernel) rfl rfl ⟨trivial, rfl, trivial, trivial⟩ ?_
  obtain ⟨⟨r3, z4⟩, hc10, h⟩ := Option.bind_eq_some_iff.mp h
  dsimp only at h
  refine q_cV1 (idx := 182) (v := .int r3) (h1 := (q_K0, z4.1, z4.2, q_R0)) [.int l1, .ref 3] 1 3 0 [.int l1] [] rfl (by decide +kernel) (by decide +kernel) rfl (Nat.le_of_ble_eq_true rfl) rfl (by decide) (by decide +kernel) (by decide +kernel) (s_X0_hasClass hc10) ?_
  refine q_if_ne (off := 5) (tgt := 20) (by decide +kernel) (by decide) (fun c15_1 => ?_) (fun c15_1 => ?_)
  · rw [if_neg c15_1] at h
    refine q_blk2 (pc2 := 29) (ls2 := [(0, .ref 1), (1, .int l1), (2, .int l2)]) (st2 := [.ref 126, .int l1, .ref 3]) (h2 := (q_K0, z4.1, z4.2, q_R0)) [(.aload_n 0, 0, 0, 0, 0, 0), (.getfield 20, 0, 8, 1, 0, 0), (.iload_n 1, 0, 0, 0, 0, 0), (.aload_n 0, 0, 0, 0, 0, 0), (.getfield 59, 0, 8, 7, 0, 0)] (by decide +kernel) rfl rfl ⟨trivial, rfl, trivial, trivial, rfl, trivial⟩ ?_
    obtain ⟨⟨_, z6⟩, hc11, h⟩ := Option.bind_eq_some_iff.mp h
    dsimp only at h
    refine q_cV0 (idx := 185) (h1 := (q_K0, z6.1, z6.2, q_R0)) [.ref 126, .int l1, .ref 3] 9 3 0 [.int l1, .ref 126] [] rfl (by decide +kernel) (by decide +kernel) rfl (Nat.le_of_ble_eq_true rfl) rfl (by decide) (by decide +kernel) (by decide +kernel) (s_X0_copyHead rfl hc11) ?_
    refine q_blk2 (pc2 := 37) (ls2 := [(0, .ref 1), (1, .int l1), (2, .int l2)]) (st2 := [.int l2, .ref 126]) (h2 := (q_K0, z6.1, z6.2, q_R0)) [(.aload_n 0, 0, 0, 0, 0, 0), (.getfield 59, 0, 8, 7, 0, 0), (.iload_n 2, 0, 0, 0, 0, 0)] (by decide +kernel) rfl rfl ⟨trivial, rfl, trivial, trivial⟩ ?_
    obtain ⟨⟨r7, z8⟩, hc12, h⟩ := Option.bind_eq_some_iff.mp h
    dsimp only at h
    refine q_cV1 (idx := 113) (v := .int r7) (h1 := (q_K0, z8.1, z8.2, q_R0)) [.int l2, .ref 126] 14 126 1 [.int l2] [] rfl (by decide +kernel) (by decide +kernel) rfl (Nat.le_of_ble_eq_true rfl) rfl (by decide) (by decide +kernel) (by decide +kernel) (s_X1_part rfl hc12) ?_
    cases h
    exact q_iret .int rfl rfl (by decide +kernel)
  · rw [if_pos c15_1] at h
    refine q_blk2 (pc2 := 19) (ls2 := [(0, .ref 1), (1, .int l1), (2, .int l2)]) (st2 := [.int 0]) (h2 := (q_K0, z4.1, z4.2, q_R0)) [(.iconst 0, 0, 0, 0, 0, 0)] (by decide +kernel) rfl rfl ⟨trivial, trivial⟩ ?_
    cases h
    exact q_iret .int rfl rfl (by decide +kernel)
/-- RootForms.one()I -/
def F_X9_one (z : q_Z) : Option (Int32 × q_Z) :=
  some (0, z)
set_option maxRecDepth 100000 in
set_option maxHeartbeats 4000000 in
theorem s_X9_one {z zR : q_Z} {rv : Int32} (h : F_X9_one z = some (rv, zR)) : q_Ca 71 [.ref 1] (q_K0, z.1, z.2, q_R0) (some (.int rv)) (q_K0, zR.1, zR.2, q_R0) := by
  refine q_Ca_of (by decide) (Nat.le_of_ble_eq_true rfl) ?_
  show q_Ex none 71 0 [(0, .ref 1)] [] (q_K0, z.1, z.2, q_R0) _ _
  unfold F_X9_one at h
  refine q_blk2 (pc2 := 1) (ls2 := [(0, .ref 1)]) (st2 := [.int 0]) (h2 := (q_K0, z.1, z.2, q_R0)) [(.iconst 0, 0, 0, 0, 0, 0)] (by decide +kernel) rfl rfl ⟨trivial, trivial⟩ ?_
  cases h
  exact q_iret .int rfl rfl (by decide +kernel)
def T_X9_join_29 (z : q_Z) : Option (Int32 × q_Z) :=
  (F_X9_refuse z 2).bind fun (r5, z6) =>
    some (r5, z6)
set_option maxRecDepth 100000 in
set_option maxHeartbeats 4000000 in
theorem t_X9_join_29 {z zR : q_Z} {rv : Int32} (h : T_X9_join_29 z = some (rv, zR)) : q_Ex none 72 29 [(0, .ref 1)] [] (q_K0, z.1, z.2, q_R0) (some (.int rv)) (q_K0, zR.1, zR.2, q_R0) := by
  unfold T_X9_join_29 at h
  refine q_blk2 (pc2 := 31) (ls2 := [(0, .ref 1)]) (st2 := [.int 2, .ref 1]) (h2 := (q_K0, z.1, z.2, q_R0)) [(.aload_n 0, 0, 0, 0, 0, 0), (.iconst 2, 0, 0, 0, 2, 0)] (by decide +kernel) rfl rfl ⟨trivial, trivial, trivial⟩ ?_
  obtain ⟨⟨r5, z6⟩, hc7, h⟩ := Option.bind_eq_some_iff.mp h
  dsimp only at h
  refine q_cV1 (idx := 86) (v := .int r5) (h1 := (q_K0, z6.1, z6.2, q_R0)) [.int 2, .ref 1] 89 1 8 [.int 2] [] rfl (by decide +kernel) (by decide +kernel) rfl (Nat.le_of_ble_eq_true rfl) rfl (by decide) (by decide +kernel) (by decide +kernel) (s_X9_refuse hc7) ?_
  cases h
  exact q_iret .int rfl rfl (by decide +kernel)
/-- RootForms.join(II)I -/
def F_X9_join (z : q_Z) (l1 : Int32) (l2 : Int32) : Option (Int32 × q_Z) :=
  (F_X0_prepare z).bind fun (_, z2) =>
    (F_X0_hasClass z2 l1).bind fun (r3, z4) =>
      if r3 = (0 : Int32) then
        T_X9_join_29 z4
      else
        (F_X0_hasClass z4 l2).bind fun (r8, z9) =>
          if r8 = (0 : Int32) then
            T_X9_join_29 z9
          else
            (F_X0_joined z9 l1 l2).bind fun (r10, z11) =>
              (F_X9_accept z11 r10).bind fun (r12, z13) =>
                some (r12, z13)
set_option maxRecDepth 100000 in
set_option maxHeartbeats 4000000 in
theorem s_X9_join {z zR : q_Z} {l1 : Int32} {l2 : Int32} {rv : Int32} (h : F_X9_join z l1 l2 = some (rv, zR)) : q_Ca 72 [.ref 1, .int l1, .int l2] (q_K0, z.1, z.2, q_R0) (some (.int rv)) (q_K0, zR.1, zR.2, q_R0) := by
  refine q_Ca_of (by decide) (Nat.le_of_ble_eq_true rfl) ?_
  show q_Ex none 72 0 [(0, .ref 1), (1, .int l1), (2, .int l2)] [] (q_K0, z.1, z.2, q_R0) _ _
  unfold F_X9_join at h
  refine q_blk2 (pc2 := 4) (ls2 := [(0, .ref 1), (1, .int l1), (2, .int l2)]) (st2 := [.ref 3]) (h2 := (q_K0, z.1, z.2, q_R0)) [(.aload_n 0, 0, 0, 0, 0, 0), (.getfield 20, 0, 8, 1, 0, 0)] (by decide +kernel) rfl rfl ⟨trivial, rfl, trivial⟩ ?_
  obtain ⟨⟨_, z2⟩, hc14, h⟩ := Option.bind_eq_some_iff.mp h
  dsimp only at h
  refine q_cV0 (idx := 161) (h1 := (q_K0, z2.1, z2.2, q_R0)) [.ref 3] 2 3 0 [] [] rfl (by decide +kernel) (by decide +kernel) rfl (Nat.le_of_ble_eq_true rfl) rfl (by decide) (by decide +kernel) (by decide +kernel) (s_X0_prepare hc14) ?_
  refine q_blk2 (pc2 := 12) (ls2 := [(0, .ref 1), (1, .int l1), (2, .int l2)]) (st2 := [.int l1, .ref 3]) (h2 := (q_K0, z2.1, z2.2, q_R0)) [(.aload_n 0, 0, 0, 0, 0, 0), (.getfield 20, 0, 8, 1, 0, 0), (.iload_n 1, 0, 0, 0, 0, 0)] (by decide +kernel) rfl rfl ⟨trivial, rfl, trivial, trivial⟩ ?_
  obtain ⟨⟨r3, z4⟩, hc15, h⟩ := Option.bind_eq_some_iff.mp h
  dsimp only at h
  refine q_cV1 (idx := 182) (v := .int r3) (h1 := (q_K0, z4.1, z4.2, q_R0)) [.int l1, .ref 3] 1 3 0 [.int l1] [] rfl (by decide +kernel) (by decide +kernel) rfl (Nat.le_of_ble_eq_true rfl) rfl (by decide) (by decide +kernel) (by decide +kernel) (s_X0_hasClass hc15) ?_
  refine q_if_eq (off := 14) (tgt := 29) (by decide +kernel) (by decide) (fun c15_1 => ?_) (fun c15_1 => ?_)
  · rw [if_pos c15_1] at h
    refine q_pick [0] rfl ?_
    exact t_X9_join_29 h
  · rw [if_neg c15_1] at h
    refine q_blk2 (pc2 := 23) (ls2 := [(0, .ref 1), (1, .int l1), (2, .int l2)]) (st2 := [.int l2, .ref 3]) (h2 := (q_K0, z4.1, z4.2, q_R0)) [(.aload_n 0, 0, 0, 0, 0, 0), (.getfield 20, 0, 8, 1, 0, 0), (.iload_n 2, 0, 0, 0, 0, 0)] (by decide +kernel) rfl rfl ⟨trivial, rfl, trivial, trivial⟩ ?_
    obtain ⟨⟨r8, z9⟩, hc16, h⟩ := Option.bind_eq_some_iff.mp h
    dsimp only at h
    refine q_cV1 (idx := 182) (v := .int r8) (h1 := (q_K0, z9.1, z9.2, q_R0)) [.int l2, .ref 3] 1 3 0 [.int l2] [] rfl (by decide +kernel) (by decide +kernel) rfl (Nat.le_of_ble_eq_true rfl) rfl (by decide) (by decide +kernel) (by decide +kernel) (s_X0_hasClass hc16) ?_
    refine q_if_ne (off := 9) (tgt := 35) (by decide +kernel) (by decide) (fun c26_2 => ?_) (fun c26_2 => ?_)
    · rw [if_neg c26_2] at h
      refine q_blk2 (pc2 := 42) (ls2 := [(0, .ref 1), (1, .int l1), (2, .int l2)]) (st2 := [.int l2, .int l1, .ref 3, .ref 1]) (h2 := (q_K0, z9.1, z9.2, q_R0)) [(.aload_n 0, 0, 0, 0, 0, 0), (.aload_n 0, 0, 0, 0, 0, 0), (.getfield 20, 0, 8, 1, 0, 0), (.iload_n 1, 0, 0, 0, 0, 0), (.iload_n 2, 0, 0, 0, 0, 0)] (by decide +kernel) rfl rfl ⟨trivial, trivial, rfl, trivial, trivial, trivial⟩ ?_
      obtain ⟨⟨r10, z11⟩, hc17, h⟩ := Option.bind_eq_some_iff.mp h
      dsimp only at h
      refine q_cV1 (idx := 188) (v := .int r10) (h1 := (q_K0, z11.1, z11.2, q_R0)) [.int l2, .int l1, .ref 3, .ref 1] 10 3 0 [.int l1, .int l2] [.ref 1] rfl (by decide +kernel) (by decide +kernel) rfl (Nat.le_of_ble_eq_true rfl) rfl (by decide) (by decide +kernel) (by decide +kernel) (s_X0_joined hc17) ?_
      obtain ⟨⟨r12, z13⟩, hc18, h⟩ := Option.bind_eq_some_iff.mp h
      dsimp only at h
      refine q_cV1 (idx := 106) (v := .int r12) (h1 := (q_K0, z13.1, z13.2, q_R0)) [.int r10, .ref 1] 90 1 8 [.int r10] [] rfl (by decide +kernel) (by decide +kernel) rfl (Nat.le_of_ble_eq_true rfl) rfl (by decide) (by decide +kernel) (by decide +kernel) (s_X9_accept hc18) ?_
      cases h
      exact q_iret .int rfl rfl (by decide +kernel)
    · rw [if_pos c26_2] at h
      refine q_pick [0] rfl ?_
      exact t_X9_join_29 h
/-- RootForms.back(I)I -/
def F_X9_back (z : q_Z) (l1 : Int32) : Option (Int32 × q_Z) :=
  (F_X0_prepare z).bind fun (_, z2) =>
    (F_X0_hasClass z2 l1).bind fun (r3, z4) =>
      if r3 = (0 : Int32) then
        (F_X9_refuse z4 2).bind fun (r11, z12) =>
          some (r11, z12)
      else
        (F_X0_copyHead 126 z4 l1).bind fun (_, z6) =>
          (F_X0_find 126 (z6.1, q_u2 z6.2 126 1 (-(z6.2 126 1)))).bind fun (r7, z8) =>
            (F_X9_accept z8 r7).bind fun (r9, z10) =>
              some (r9, z10)
set_option maxRecDepth 100000 in
set_option maxHeartbeats 4000000 in
theorem s_X9_back {z zR : q_Z} {l1 : Int32} {rv : Int32} (h : F_X9_back z l1 = some (rv, zR)) : q_Ca 73 [.ref 1, .int l1] (q_K0, z.1, z.2, q_R0) (some (.int rv)) (q_K0, zR.1, zR.2, q_R0) := by
  refine q_Ca_of (by decide) (Nat.le_of_ble_eq_true rfl) ?_
  show q_Ex none 73 0 [(0, .ref 1), (1, .int l1)] [] (q_K0, z.1, z.2, q_R0) _ _
  unfold F_X9_back at h
  refine q_blk2 (pc2 := 4) (ls2 := [(0, .ref 1), (1, .int l1)]) (st2 := [.ref 3]) (h2 := (q_K0, z.1, z.2, q_R0)) [(.aload_n 0, 0, 0, 0, 0, 0), (.getfield 20, 0, 8, 1, 0, 0)] (by decide +kernel) rfl rfl ⟨trivial, rfl, trivial⟩ ?_
  obtain ⟨⟨_, z2⟩, hc13, h⟩ := Option.bind_eq_some_iff.mp h
  dsimp only at h
  refine q_cV0 (idx := 161) (h1 := (q_K0, z2.1, z2.2, q_R0)) [.ref 3] 2 3 0 [] [] rfl (by decide +kernel) (by decide +kernel) rfl (Nat.le_of_ble_eq_true rfl) rfl (by decide) (by decide +kernel) (by decide +kernel) (s_X0_prepare hc13) ?_
  refine q_blk2 (pc2 := 12) (ls2 := [(0, .ref 1), (1, .int l1)]) (st2 := [.int l1, .ref 3]) (h2 := (q_K0, z2.1, z2.2, q_R0)) [(.aload_n 0, 0, 0, 0, 0, 0), (.getfield 20, 0, 8, 1, 0, 0), (.iload_n 1, 0, 0, 0, 0, 0)] (by decide +kernel) rfl rfl ⟨trivial, rfl, trivial, trivial⟩ ?_
  obtain ⟨⟨r3, z4⟩, hc14, h⟩ := Option.bind_eq_some_iff.mp h
  dsimp only at h
  refine q_cV1 (idx := 182) (v := .int r3) (h1 := (q_K0, z4.1, z4.2, q_R0)) [.int l1, .ref 3] 1 3 0 [.int l1] [] rfl (by decide +kernel) (by decide +kernel) rfl (Nat.le_of_ble_eq_true rfl) rfl (by decide) (by decide +kernel) (by decide +kernel) (s_X0_hasClass hc14) ?_
  refine q_if_ne (off := 9) (tgt := 24) (by decide +kernel) (by decide) (fun c15_1 => ?_) (fun c15_1 => ?_)
  · rw [if_neg c15_1] at h
    refine q_blk2 (pc2 := 33) (ls2 := [(0, .ref 1), (1, .int l1)]) (st2 := [.ref 126, .int l1, .ref 3]) (h2 := (q_K0, z4.1, z4.2, q_R0)) [(.aload_n 0, 0, 0, 0, 0, 0), (.getfield 20, 0, 8, 1, 0, 0), (.iload_n 1, 0, 0, 0, 0, 0), (.aload_n 0, 0, 0, 0, 0, 0), (.getfield 59, 0, 8, 7, 0, 0)] (by decide +kernel) rfl rfl ⟨trivial, rfl, trivial, trivial, rfl, trivial⟩ ?_
    obtain ⟨⟨_, z6⟩, hc15, h⟩ := Option.bind_eq_some_iff.mp h
    dsimp only at h
    refine q_cV0 (idx := 185) (h1 := (q_K0, z6.1, z6.2, q_R0)) [.ref 126, .int l1, .ref 3] 9 3 0 [.int l1, .ref 126] [] rfl (by decide +kernel) (by decide +kernel) rfl (Nat.le_of_ble_eq_true rfl) rfl (by decide) (by decide +kernel) (by decide +kernel) (s_X0_copyHead rfl hc15) ?_
    refine q_blk2 (pc2 := 60) (ls2 := [(0, .ref 1), (1, .int l1)]) (st2 := [.ref 126, .ref 3, .ref 1]) (h2 := (q_K0, z6.1, q_u2 z6.2 126 1 (-(z6.2 126 1)), q_R0)) [(.aload_n 0, 0, 0, 0, 0, 0), (.getfield 59, 0, 8, 7, 0, 0), (.aload_n 0, 0, 0, 0, 0, 0), (.getfield 59, 0, 8, 7, 0, 0), (.getfield 192, 0, 1, 1, 0, 0), (.lneg, 0, 0, 0, 0, 0), (.putfield 192, 0, 1, 1, 0, 0), (.aload_n 0, 0, 0, 0, 0, 0), (.aload_n 0, 0, 0, 0, 0, 0), (.getfield 20, 0, 8, 1, 0, 0), (.aload_n 0, 0, 0, 0, 0, 0), (.getfield 59, 0, 8, 7, 0, 0)] (by decide +kernel) rfl rfl ⟨trivial, rfl, trivial, rfl, rfl, trivial, rfl, trivial, trivial, rfl, trivial, rfl, trivial⟩ ?_
    obtain ⟨⟨r7, z8⟩, hc16, h⟩ := Option.bind_eq_some_iff.mp h
    dsimp only at h
    refine q_cV1 (idx := 164) (v := .int r7) (h1 := (q_K0, z8.1, z8.2, q_R0)) [.ref 126, .ref 3, .ref 1] 8 3 0 [.ref 126] [.ref 1] rfl (by decide +kernel) (by decide +kernel) rfl (Nat.le_of_ble_eq_true rfl) rfl (by decide) (by decide +kernel) (by decide +kernel) (s_X0_find rfl hc16) ?_
    obtain ⟨⟨r9, z10⟩, hc17, h⟩ := Option.bind_eq_some_iff.mp h
    dsimp only at h
    refine q_cV1 (idx := 106) (v := .int r9) (h1 := (q_K0, z10.1, z10.2, q_R0)) [.int r7, .ref 1] 90 1 8 [.int r7] [] rfl (by decide +kernel) (by decide +kernel) rfl (Nat.le_of_ble_eq_true rfl) rfl (by decide) (by decide +kernel) (by decide +kernel) (s_X9_accept hc17) ?_
    cases h
    exact q_iret .int rfl rfl (by decide +kernel)
  · rw [if_pos c15_1] at h
    refine q_blk2 (pc2 := 20) (ls2 := [(0, .ref 1), (1, .int l1)]) (st2 := [.int 2, .ref 1]) (h2 := (q_K0, z4.1, z4.2, q_R0)) [(.aload_n 0, 0, 0, 0, 0, 0), (.iconst 2, 0, 0, 0, 2, 0)] (by decide +kernel) rfl rfl ⟨trivial, trivial, trivial⟩ ?_
    obtain ⟨⟨r11, z12⟩, hc18, h⟩ := Option.bind_eq_some_iff.mp h
    dsimp only at h
    refine q_cV1 (idx := 86) (v := .int r11) (h1 := (q_K0, z12.1, z12.2, q_R0)) [.int 2, .ref 1] 89 1 8 [.int 2] [] rfl (by decide +kernel) (by decide +kernel) rfl (Nat.le_of_ble_eq_true rfl) rfl (by decide) (by decide +kernel) (by decide +kernel) (s_X9_refuse hc18) ?_
    cases h
    exact q_iret .int rfl rfl (by decide +kernel)
/-- RootForms.order(I)I -/
def F_X9_order (z : q_Z) (l1 : Int32) : Option (Int32 × q_Z) :=
  (F_X3_prepare z).bind fun (_, z2) =>
    (F_X0_hasClass z2 l1).bind fun (r3, z4) =>
      if r3 = (0 : Int32) then
        (F_X9_refuse z4 2).bind fun (r8, z9) =>
          some (r8, z9)
      else
        if 0 ≤ Int32.toInt l1 ∧ Int32.toInt l1 < 128 then
          (F_X9_accept z4 (z4.1 13 (Int32.toNatClampNeg l1))).bind fun (r6, z7) =>
            some (r6, z7)
        else none
set_option maxRecDepth 100000 in
set_option maxHeartbeats 4000000 in
theorem s_X9_order {z zR : q_Z} {l1 : Int32} {rv : Int32} (h : F_X9_order z l1 = some (rv, zR)) : q_Ca 74 [.ref 1, .int l1] (q_K0, z.1, z.2, q_R0) (some (.int rv)) (q_K0, zR.1, zR.2, q_R0) := by
  refine q_Ca_of (by decide) (Nat.le_of_ble_eq_true rfl) ?_
  show q_Ex none 74 0 [(0, .ref 1), (1, .int l1)] [] (q_K0, z.1, z.2, q_R0) _ _
  unfold F_X9_order at h
  refine q_blk2 (pc2 := 4) (ls2 := [(0, .ref 1), (1, .int l1)]) (st2 := [.ref 2]) (h2 := (q_K0, z.1, z.2, q_R0)) [(.aload_n 0, 0, 0, 0, 0, 0), (.getfield 10, 0, 8, 0, 0, 0)] (by decide +kernel) rfl rfl ⟨trivial, rfl, trivial⟩ ?_
  obtain ⟨⟨_, z2⟩, hc10, h⟩ := Option.bind_eq_some_iff.mp h
  dsimp only at h
  refine q_cV0 (idx := 195) (h1 := (q_K0, z2.1, z2.2, q_R0)) [.ref 2] 25 2 3 [] [] rfl (by decide +kernel) (by decide +kernel) rfl (Nat.le_of_ble_eq_true rfl) rfl (by decide) (by decide +kernel) (by decide +kernel) (s_X3_prepare hc10) ?_
  refine q_blk2 (pc2 := 12) (ls2 := [(0, .ref 1), (1, .int l1)]) (st2 := [.int l1, .ref 3]) (h2 := (q_K0, z2.1, z2.2, q_R0)) [(.aload_n 0, 0, 0, 0, 0, 0), (.getfield 20, 0, 8, 1, 0, 0), (.iload_n 1, 0, 0, 0, 0, 0)] (by decide +kernel) rfl rfl ⟨trivial, rfl, trivial, trivial⟩ ?_
  obtain ⟨⟨r3, z4⟩, hc11, h⟩ := Option.bind_eq_some_iff.mp h
  dsimp only at h
  refine q_cV1 (idx := 182) (v := .int r3) (h1 := (q_K0, z4.1, z4.2, q_R0)) [.int l1, .ref 3] 1 3 0 [.int l1] [] rfl (by decide +kernel) (by decide +kernel) rfl (Nat.le_of_ble_eq_true rfl) rfl (by decide) (by decide +kernel) (by decide +kernel) (s_X0_hasClass hc11) ?_
  refine q_if_ne (off := 9) (tgt := 24) (by decide +kernel) (by decide) (fun c15_1 => ?_) (fun c15_1 => ?_)
  · rw [if_neg c15_1] at h
    have b5 : 0 ≤ Int32.toInt l1 ∧ Int32.toInt l1 < 128 := by
      by_cases q : 0 ≤ Int32.toInt l1 ∧ Int32.toInt l1 < 128
      · exact q
      · rw [if_neg q] at h; cases h
    rw [if_pos b5] at h
    refine q_blk2 (pc2 := 34) (ls2 := [(0, .ref 1), (1, .int l1)]) (st2 := [.int (z4.1 13 (Int32.toNatClampNeg l1)), .ref 1]) (h2 := (q_K0, z4.1, z4.2, q_R0)) [(.aload_n 0, 0, 0, 0, 0, 0), (.aload_n 0, 0, 0, 0, 0, 0), (.getfield 10, 0, 8, 0, 0, 0), (.getfield 196, 0, 3, 1, 0, 0), (.iload_n 1, 0, 0, 0, 0, 0), (.iaload, 0, 0, 0, 0, 0)] (by decide +kernel) rfl rfl ⟨trivial, trivial, rfl, rfl, trivial, ⟨_, rfl, vp_in_iff.mpr b5⟩, trivial⟩ ?_
    obtain ⟨⟨r6, z7⟩, hc12, h⟩ := Option.bind_eq_some_iff.mp h
    dsimp only at h
    refine q_cV1 (idx := 106) (v := .int r6) (h1 := (q_K0, z7.1, z7.2, q_R0)) [.int (z4.1 13 (Int32.toNatClampNeg l1)), .ref 1] 90 1 8 [.int (z4.1 13 (Int32.toNatClampNeg l1))] [] rfl (by decide +kernel) (by decide +kernel) rfl (Nat.le_of_ble_eq_true rfl) rfl (by decide) (by decide +kernel) (by decide +kernel) (s_X9_accept hc12) ?_
    cases h
    exact q_iret .int rfl rfl (by decide +kernel)
  · rw [if_pos c15_1] at h
    refine q_blk2 (pc2 := 20) (ls2 := [(0, .ref 1), (1, .int l1)]) (st2 := [.int 2, .ref 1]) (h2 := (q_K0, z4.1, z4.2, q_R0)) [(.aload_n 0, 0, 0, 0, 0, 0), (.iconst 2, 0, 0, 0, 2, 0)] (by decide +kernel) rfl rfl ⟨trivial, trivial, trivial⟩ ?_
    obtain ⟨⟨r8, z9⟩, hc13, h⟩ := Option.bind_eq_some_iff.mp h
    dsimp only at h
    refine q_cV1 (idx := 86) (v := .int r8) (h1 := (q_K0, z9.1, z9.2, q_R0)) [.int 2, .ref 1] 89 1 8 [.int 2] [] rfl (by decide +kernel) (by decide +kernel) rfl (Nat.le_of_ble_eq_true rfl) rfl (by decide) (by decide +kernel) (by decide +kernel) (s_X9_refuse hc13) ?_
    cases h
    exact q_iret .int rfl rfl (by decide +kernel)
def T_X9_group_28 (z : q_Z) : Option (Int32 × q_Z) :=
  (F_X9_refuse z 2).bind fun (r3, z4) =>
    some (r3, z4)
set_option maxRecDepth 100000 in
set_option maxHeartbeats 4000000 in
theorem t_X9_group_28 {z zR : q_Z} {rv : Int32} (h : T_X9_group_28 z = some (rv, zR)) : q_Ex none 75 28 [(0, .ref 1)] [] (q_K0, z.1, z.2, q_R0) (some (.int rv)) (q_K0, zR.1, zR.2, q_R0) := by
  unfold T_X9_group_28 at h
  refine q_blk2 (pc2 := 30) (ls2 := [(0, .ref 1)]) (st2 := [.int 2, .ref 1]) (h2 := (q_K0, z.1, z.2, q_R0)) [(.aload_n 0, 0, 0, 0, 0, 0), (.iconst 2, 0, 0, 0, 2, 0)] (by decide +kernel) rfl rfl ⟨trivial, trivial, trivial⟩ ?_
  obtain ⟨⟨r3, z4⟩, hc5, h⟩ := Option.bind_eq_some_iff.mp h
  dsimp only at h
  refine q_cV1 (idx := 86) (v := .int r3) (h1 := (q_K0, z4.1, z4.2, q_R0)) [.int 2, .ref 1] 89 1 8 [.int 2] [] rfl (by decide +kernel) (by decide +kernel) rfl (Nat.le_of_ble_eq_true rfl) rfl (by decide) (by decide +kernel) (by decide +kernel) (s_X9_refuse hc5) ?_
  cases h
  exact q_iret .int rfl rfl (by decide +kernel)
/-- RootForms.group(I)I -/
def F_X9_group (z : q_Z) (l1 : Int32) : Option (Int32 × q_Z) :=
  (F_X3_prepare z).bind fun (_, z2) =>
    if l1 < (0 : Int32) then
      T_X9_group_28 z2
    else
      if (z2.1 2 5) ≤ l1 then
        T_X9_group_28 z2
      else
        if l1 < (16 : Int32) then
          if 0 ≤ Int32.toInt l1 ∧ Int32.toInt l1 < 16 then
            (F_X9_accept z2 (z2.1 16 (Int32.toNatClampNeg l1))).bind fun (r7, z8) =>
              some (r7, z8)
          else none
        else
          T_X9_group_28 z2
set_option maxRecDepth 100000 in
set_option maxHeartbeats 4000000 in
theorem s_X9_group {z zR : q_Z} {l1 : Int32} {rv : Int32} (h : F_X9_group z l1 = some (rv, zR)) : q_Ca 75 [.ref 1, .int l1] (q_K0, z.1, z.2, q_R0) (some (.int rv)) (q_K0, zR.1, zR.2, q_R0) := by
  refine q_Ca_of (by decide) (Nat.le_of_ble_eq_true rfl) ?_
  show q_Ex none 75 0 [(0, .ref 1), (1, .int l1)] [] (q_K0, z.1, z.2, q_R0) _ _
  unfold F_X9_group at h
  refine q_blk2 (pc2 := 4) (ls2 := [(0, .ref 1), (1, .int l1)]) (st2 := [.ref 2]) (h2 := (q_K0, z.1, z.2, q_R0)) [(.aload_n 0, 0, 0, 0, 0, 0), (.getfield 10, 0, 8, 0, 0, 0)] (by decide +kernel) rfl rfl ⟨trivial, rfl, trivial⟩ ?_
  obtain ⟨⟨_, z2⟩, hc9, h⟩ := Option.bind_eq_some_iff.mp h
  dsimp only at h
  refine q_cV0 (idx := 195) (h1 := (q_K0, z2.1, z2.2, q_R0)) [.ref 2] 25 2 3 [] [] rfl (by decide +kernel) (by decide +kernel) rfl (Nat.le_of_ble_eq_true rfl) rfl (by decide) (by decide +kernel) (by decide +kernel) (s_X3_prepare hc9) ?_
  refine q_blk2 (pc2 := 8) (ls2 := [(0, .ref 1), (1, .int l1)]) (st2 := [.int l1]) (h2 := (q_K0, z2.1, z2.2, q_R0)) [(.iload_n 1, 0, 0, 0, 0, 0)] (by decide +kernel) rfl rfl ⟨trivial, trivial⟩ ?_
  refine q_if_lt (off := 20) (tgt := 28) (by decide +kernel) (by decide) (fun c8_1 => ?_) (fun c8_1 => ?_)
  · rw [if_pos c8_1] at h
    refine q_pick [0] rfl ?_
    exact t_X9_group_28 h
  · rw [if_neg c8_1] at h
    refine q_blk2 (pc2 := 19) (ls2 := [(0, .ref 1), (1, .int l1)]) (st2 := [.int (z2.1 2 5), .int l1]) (h2 := (q_K0, z2.1, z2.2, q_R0)) [(.iload_n 1, 0, 0, 0, 0, 0), (.aload_n 0, 0, 0, 0, 0, 0), (.getfield 10, 0, 8, 0, 0, 0), (.getfield 200, 0, 3, 5, 0, 0)] (by decide +kernel) rfl rfl ⟨trivial, trivial, rfl, rfl, trivial⟩ ?_
    refine q_ic_ge (off := 9) (tgt := 28) (by decide +kernel) (by decide) (fun c19_2 => ?_) (fun c19_2 => ?_)
    · rw [if_pos c19_2] at h
      refine q_pick [0] rfl ?_
      exact t_X9_group_28 h
    · rw [if_neg c19_2] at h
      refine q_blk2 (pc2 := 25) (ls2 := [(0, .ref 1), (1, .int l1)]) (st2 := [.int 16, .int l1]) (h2 := (q_K0, z2.1, z2.2, q_R0)) [(.iload_n 1, 0, 0, 0, 0, 0), (.bipush 16, 0, 0, 0, 16, 0)] (by decide +kernel) rfl rfl ⟨trivial, trivial, trivial⟩ ?_
      refine q_ic_lt (off := 9) (tgt := 34) (by decide +kernel) (by decide) (fun c25_3 => ?_) (fun c25_3 => ?_)
      · rw [if_pos c25_3] at h
        have b6 : 0 ≤ Int32.toInt l1 ∧ Int32.toInt l1 < 16 := by
          by_cases q : 0 ≤ Int32.toInt l1 ∧ Int32.toInt l1 < 16
          · exact q
          · rw [if_neg q] at h; cases h
        rw [if_pos b6] at h
        refine q_blk2 (pc2 := 44) (ls2 := [(0, .ref 1), (1, .int l1)]) (st2 := [.int (z2.1 16 (Int32.toNatClampNeg l1)), .ref 1]) (h2 := (q_K0, z2.1, z2.2, q_R0)) [(.aload_n 0, 0, 0, 0, 0, 0), (.aload_n 0, 0, 0, 0, 0, 0), (.getfield 10, 0, 8, 0, 0, 0), (.getfield 203, 0, 3, 4, 0, 0), (.iload_n 1, 0, 0, 0, 0, 0), (.iaload, 0, 0, 0, 0, 0)] (by decide +kernel) rfl rfl ⟨trivial, trivial, rfl, rfl, trivial, ⟨_, rfl, vp_in_iff.mpr b6⟩, trivial⟩ ?_
        obtain ⟨⟨r7, z8⟩, hc10, h⟩ := Option.bind_eq_some_iff.mp h
        dsimp only at h
        refine q_cV1 (idx := 106) (v := .int r7) (h1 := (q_K0, z8.1, z8.2, q_R0)) [.int (z2.1 16 (Int32.toNatClampNeg l1)), .ref 1] 90 1 8 [.int (z2.1 16 (Int32.toNatClampNeg l1))] [] rfl (by decide +kernel) (by decide +kernel) rfl (Nat.le_of_ble_eq_true rfl) rfl (by decide) (by decide +kernel) (by decide +kernel) (s_X9_accept hc10) ?_
        cases h
        exact q_iret .int rfl rfl (by decide +kernel)
      · rw [if_neg c25_3] at h
        refine q_pick [0] rfl ?_
        exact t_X9_group_28 h
/-- RootForms.genus(I)I -/
def F_X9_genus (z : q_Z) (l1 : Int32) : Option (Int32 × q_Z) :=
  (F_X3_prepare z).bind fun (_, z2) =>
    (F_X0_hasClass z2 l1).bind fun (r3, z4) =>
      if r3 = (0 : Int32) then
        (F_X9_refuse z4 2).bind fun (r8, z9) =>
          some (r8, z9)
      else
        if 0 ≤ Int32.toInt l1 ∧ Int32.toInt l1 < 128 then
          (F_X9_accept z4 (z4.1 14 (Int32.toNatClampNeg l1))).bind fun (r6, z7) =>
            some (r6, z7)
        else none
set_option maxRecDepth 100000 in
set_option maxHeartbeats 4000000 in
theorem s_X9_genus {z zR : q_Z} {l1 : Int32} {rv : Int32} (h : F_X9_genus z l1 = some (rv, zR)) : q_Ca 76 [.ref 1, .int l1] (q_K0, z.1, z.2, q_R0) (some (.int rv)) (q_K0, zR.1, zR.2, q_R0) := by
  refine q_Ca_of (by decide) (Nat.le_of_ble_eq_true rfl) ?_
  show q_Ex none 76 0 [(0, .ref 1), (1, .int l1)] [] (q_K0, z.1, z.2, q_R0) _ _
  unfold F_X9_genus at h
  refine q_blk2 (pc2 := 4) (ls2 := [(0, .ref 1), (1, .int l1)]) (st2 := [.ref 2]) (h2 := (q_K0, z.1, z.2, q_R0)) [(.aload_n 0, 0, 0, 0, 0, 0), (.getfield 10, 0, 8, 0, 0, 0)] (by decide +kernel) rfl rfl ⟨trivial, rfl, trivial⟩ ?_
  obtain ⟨⟨_, z2⟩, hc10, h⟩ := Option.bind_eq_some_iff.mp h
  dsimp only at h
  refine q_cV0 (idx := 195) (h1 := (q_K0, z2.1, z2.2, q_R0)) [.ref 2] 25 2 3 [] [] rfl (by decide +kernel) (by decide +kernel) rfl (Nat.le_of_ble_eq_true rfl) rfl (by decide) (by decide +kernel) (by decide +kernel) (s_X3_prepare hc10) ?_
  refine q_blk2 (pc2 := 12) (ls2 := [(0, .ref 1), (1, .int l1)]) (st2 := [.int l1, .ref 3]) (h2 := (q_K0, z2.1, z2.2, q_R0)) [(.aload_n 0, 0, 0, 0, 0, 0), (.getfield 20, 0, 8, 1, 0, 0), (.iload_n 1, 0, 0, 0, 0, 0)] (by decide +kernel) rfl rfl ⟨trivial, rfl, trivial, trivial⟩ ?_
  obtain ⟨⟨r3, z4⟩, hc11, h⟩ := Option.bind_eq_some_iff.mp h
  dsimp only at h
  refine q_cV1 (idx := 182) (v := .int r3) (h1 := (q_K0, z4.1, z4.2, q_R0)) [.int l1, .ref 3] 1 3 0 [.int l1] [] rfl (by decide +kernel) (by decide +kernel) rfl (Nat.le_of_ble_eq_true rfl) rfl (by decide) (by decide +kernel) (by decide +kernel) (s_X0_hasClass hc11) ?_
  refine q_if_ne (off := 9) (tgt := 24) (by decide +kernel) (by decide) (fun c15_1 => ?_) (fun c15_1 => ?_)
  · rw [if_neg c15_1] at h
    have b5 : 0 ≤ Int32.toInt l1 ∧ Int32.toInt l1 < 128 := by
      by_cases q : 0 ≤ Int32.toInt l1 ∧ Int32.toInt l1 < 128
      · exact q
      · rw [if_neg q] at h; cases h
    rw [if_pos b5] at h
    refine q_blk2 (pc2 := 34) (ls2 := [(0, .ref 1), (1, .int l1)]) (st2 := [.int (z4.1 14 (Int32.toNatClampNeg l1)), .ref 1]) (h2 := (q_K0, z4.1, z4.2, q_R0)) [(.aload_n 0, 0, 0, 0, 0, 0), (.aload_n 0, 0, 0, 0, 0, 0), (.getfield 10, 0, 8, 0, 0, 0), (.getfield 206, 0, 3, 2, 0, 0), (.iload_n 1, 0, 0, 0, 0, 0), (.iaload, 0, 0, 0, 0, 0)] (by decide +kernel) rfl rfl ⟨trivial, trivial, rfl, rfl, trivial, ⟨_, rfl, vp_in_iff.mpr b5⟩, trivial⟩ ?_
    obtain ⟨⟨r6, z7⟩, hc12, h⟩ := Option.bind_eq_some_iff.mp h
    dsimp only at h
    refine q_cV1 (idx := 106) (v := .int r6) (h1 := (q_K0, z7.1, z7.2, q_R0)) [.int (z4.1 14 (Int32.toNatClampNeg l1)), .ref 1] 90 1 8 [.int (z4.1 14 (Int32.toNatClampNeg l1))] [] rfl (by decide +kernel) (by decide +kernel) rfl (Nat.le_of_ble_eq_true rfl) rfl (by decide) (by decide +kernel) (by decide +kernel) (s_X9_accept hc12) ?_
    cases h
    exact q_iret .int rfl rfl (by decide +kernel)
  · rw [if_pos c15_1] at h
    refine q_blk2 (pc2 := 20) (ls2 := [(0, .ref 1), (1, .int l1)]) (st2 := [.int 2, .ref 1]) (h2 := (q_K0, z4.1, z4.2, q_R0)) [(.aload_n 0, 0, 0, 0, 0, 0), (.iconst 2, 0, 0, 0, 2, 0)] (by decide +kernel) rfl rfl ⟨trivial, trivial, trivial⟩ ?_
    obtain ⟨⟨r8, z9⟩, hc13, h⟩ := Option.bind_eq_some_iff.mp h
    dsimp only at h
    refine q_cV1 (idx := 86) (v := .int r8) (h1 := (q_K0, z9.1, z9.2, q_R0)) [.int 2, .ref 1] 89 1 8 [.int 2] [] rfl (by decide +kernel) (by decide +kernel) rfl (Nat.le_of_ble_eq_true rfl) rfl (by decide) (by decide +kernel) (by decide +kernel) (s_X9_refuse hc13) ?_
    cases h
    exact q_iret .int rfl rfl (by decide +kernel)
/-- RootForms.genera()I -/
def F_X9_genera (z : q_Z) : Option (Int32 × q_Z) :=
  (F_X3_prepare z).bind fun (_, z2) =>
    some (z2.1 2 6, z2)
set_option maxRecDepth 100000 in
set_option maxHeartbeats 4000000 in
theorem s_X9_genera {z zR : q_Z} {rv : Int32} (h : F_X9_genera z = some (rv, zR)) : q_Ca 77 [.ref 1] (q_K0, z.1, z.2, q_R0) (some (.int rv)) (q_K0, zR.1, zR.2, q_R0) := by
  refine q_Ca_of (by decide) (Nat.le_of_ble_eq_true rfl) ?_
  show q_Ex none 77 0 [(0, .ref 1)] [] (q_K0, z.1, z.2, q_R0) _ _
  unfold F_X9_genera at h
  refine q_blk2 (pc2 := 4) (ls2 := [(0, .ref 1)]) (st2 := [.ref 2]) (h2 := (q_K0, z.1, z.2, q_R0)) [(.aload_n 0, 0, 0, 0, 0, 0), (.getfield 10, 0, 8, 0, 0, 0)] (by decide +kernel) rfl rfl ⟨trivial, rfl, trivial⟩ ?_
  obtain ⟨⟨_, z2⟩, hc3, h⟩ := Option.bind_eq_some_iff.mp h
  dsimp only at h
  refine q_cV0 (idx := 195) (h1 := (q_K0, z2.1, z2.2, q_R0)) [.ref 2] 25 2 3 [] [] rfl (by decide +kernel) (by decide +kernel) rfl (Nat.le_of_ble_eq_true rfl) rfl (by decide) (by decide +kernel) (by decide +kernel) (s_X3_prepare hc3) ?_
  refine q_blk2 (pc2 := 14) (ls2 := [(0, .ref 1)]) (st2 := [.int (z2.1 2 6)]) (h2 := (q_K0, z2.1, z2.2, q_R0)) [(.aload_n 0, 0, 0, 0, 0, 0), (.getfield 10, 0, 8, 0, 0, 0), (.getfield 209, 0, 3, 6, 0, 0)] (by decide +kernel) rfl rfl ⟨trivial, rfl, rfl, trivial⟩ ?_
  cases h
  exact q_iret .int rfl rfl (by decide +kernel)
