/-! branches, the script, ends (written by wip/whole/gen5.py) -/
theorem q_if_eq {sc : Option (Nat × (Nat → Int32))} {i pc : Nat} {ls : List (Nat × Value)} {st : List Value} {h h2 : q_H} {r : Option Value} {x : Int32} {off : Int} {tgt : Nat} (hd : decode (q_cB i) pc = .ok (.ifCond .eq off, 3)) (ht : (pc : Int) + off = (tgt : Int)) (kt : x = 0 → q_Ex sc i tgt ls st h r h2) (kf : ¬ (x = 0) → q_Ex sc i (pc + 3) ls st h r h2) : q_Ex sc i pc ls (.int x :: st) h r h2 := by
  by_cases hx : x = 0
  · exact q_go0 (fun p l e R s m args below meth c D b base cA H locs cells slots lsA Q C hR hS hSc hl kk => lv_if_eq C.1 C.2.1 hd ht (fun _ => kk lsA hl) (fun hn => absurd hx hn)) (kt hx)
  · exact q_go0 (fun p l e R s m args below meth c D b base cA H locs cells slots lsA Q C hR hS hSc hl kk => lv_if_eq C.1 C.2.1 hd ht (fun hn => absurd hn hx) (fun _ => kk lsA hl)) (kf hx)
theorem q_ic_eq {sc : Option (Nat × (Nat → Int32))} {i pc : Nat} {ls : List (Nat × Value)} {st : List Value} {h h2 : q_H} {r : Option Value} {x y : Int32} {off : Int} {tgt : Nat} (hd : decode (q_cB i) pc = .ok (.if_icmp .eq off, 3)) (ht : (pc : Int) + off = (tgt : Int)) (kt : x = y → q_Ex sc i tgt ls st h r h2) (kf : ¬ (x = y) → q_Ex sc i (pc + 3) ls st h r h2) : q_Ex sc i pc ls (.int y :: .int x :: st) h r h2 := by
  by_cases hx : x = y
  · exact q_go0 (fun p l e R s m args below meth c D b base cA H locs cells slots lsA Q C hR hS hSc hl kk => lv_icmp_eq C.1 C.2.1 hd ht (fun _ => kk lsA hl) (fun hn => absurd hx hn)) (kt hx)
  · exact q_go0 (fun p l e R s m args below meth c D b base cA H locs cells slots lsA Q C hR hS hSc hl kk => lv_icmp_eq C.1 C.2.1 hd ht (fun hn => absurd hn hx) (fun _ => kk lsA hl)) (kf hx)
theorem q_if_lt {sc : Option (Nat × (Nat → Int32))} {i pc : Nat} {ls : List (Nat × Value)} {st : List Value} {h h2 : q_H} {r : Option Value} {x : Int32} {off : Int} {tgt : Nat} (hd : decode (q_cB i) pc = .ok (.ifCond .lt off, 3)) (ht : (pc : Int) + off = (tgt : Int)) (kt : x < 0 → q_Ex sc i tgt ls st h r h2) (kf : ¬ (x < 0) → q_Ex sc i (pc + 3) ls st h r h2) : q_Ex sc i pc ls (.int x :: st) h r h2 := by
  by_cases hx : x < 0
  · exact q_go0 (fun p l e R s m args below meth c D b base cA H locs cells slots lsA Q C hR hS hSc hl kk => lv_if_lt C.1 C.2.1 hd ht (fun _ => kk lsA hl) (fun hn => absurd hx hn)) (kt hx)
  · exact q_go0 (fun p l e R s m args below meth c D b base cA H locs cells slots lsA Q C hR hS hSc hl kk => lv_if_lt C.1 C.2.1 hd ht (fun hn => absurd hn hx) (fun _ => kk lsA hl)) (kf hx)
theorem q_ic_lt {sc : Option (Nat × (Nat → Int32))} {i pc : Nat} {ls : List (Nat × Value)} {st : List Value} {h h2 : q_H} {r : Option Value} {x y : Int32} {off : Int} {tgt : Nat} (hd : decode (q_cB i) pc = .ok (.if_icmp .lt off, 3)) (ht : (pc : Int) + off = (tgt : Int)) (kt : x < y → q_Ex sc i tgt ls st h r h2) (kf : ¬ (x < y) → q_Ex sc i (pc + 3) ls st h r h2) : q_Ex sc i pc ls (.int y :: .int x :: st) h r h2 := by
  by_cases hx : x < y
  · exact q_go0 (fun p l e R s m args below meth c D b base cA H locs cells slots lsA Q C hR hS hSc hl kk => lv_icmp_lt C.1 C.2.1 hd ht (fun _ => kk lsA hl) (fun hn => absurd hx hn)) (kt hx)
  · exact q_go0 (fun p l e R s m args below meth c D b base cA H locs cells slots lsA Q C hR hS hSc hl kk => lv_icmp_lt C.1 C.2.1 hd ht (fun hn => absurd hn hx) (fun _ => kk lsA hl)) (kf hx)
theorem q_if_ge {sc : Option (Nat × (Nat → Int32))} {i pc : Nat} {ls : List (Nat × Value)} {st : List Value} {h h2 : q_H} {r : Option Value} {x : Int32} {off : Int} {tgt : Nat} (hd : decode (q_cB i) pc = .ok (.ifCond .ge off, 3)) (ht : (pc : Int) + off = (tgt : Int)) (kt : 0 ≤ x → q_Ex sc i tgt ls st h r h2) (kf : ¬ (0 ≤ x) → q_Ex sc i (pc + 3) ls st h r h2) : q_Ex sc i pc ls (.int x :: st) h r h2 := by
  by_cases hx : 0 ≤ x
  · exact q_go0 (fun p l e R s m args below meth c D b base cA H locs cells slots lsA Q C hR hS hSc hl kk => lv_if_ge C.1 C.2.1 hd ht (fun _ => kk lsA hl) (fun hn => absurd hx hn)) (kt hx)
  · exact q_go0 (fun p l e R s m args below meth c D b base cA H locs cells slots lsA Q C hR hS hSc hl kk => lv_if_ge C.1 C.2.1 hd ht (fun hn => absurd hn hx) (fun _ => kk lsA hl)) (kf hx)
theorem q_ic_ge {sc : Option (Nat × (Nat → Int32))} {i pc : Nat} {ls : List (Nat × Value)} {st : List Value} {h h2 : q_H} {r : Option Value} {x y : Int32} {off : Int} {tgt : Nat} (hd : decode (q_cB i) pc = .ok (.if_icmp .ge off, 3)) (ht : (pc : Int) + off = (tgt : Int)) (kt : y ≤ x → q_Ex sc i tgt ls st h r h2) (kf : ¬ (y ≤ x) → q_Ex sc i (pc + 3) ls st h r h2) : q_Ex sc i pc ls (.int y :: .int x :: st) h r h2 := by
  by_cases hx : y ≤ x
  · exact q_go0 (fun p l e R s m args below meth c D b base cA H locs cells slots lsA Q C hR hS hSc hl kk => lv_icmp_ge C.1 C.2.1 hd ht (fun _ => kk lsA hl) (fun hn => absurd hx hn)) (kt hx)
  · exact q_go0 (fun p l e R s m args below meth c D b base cA H locs cells slots lsA Q C hR hS hSc hl kk => lv_icmp_ge C.1 C.2.1 hd ht (fun hn => absurd hn hx) (fun _ => kk lsA hl)) (kf hx)
theorem q_if_gt {sc : Option (Nat × (Nat → Int32))} {i pc : Nat} {ls : List (Nat × Value)} {st : List Value} {h h2 : q_H} {r : Option Value} {x : Int32} {off : Int} {tgt : Nat} (hd : decode (q_cB i) pc = .ok (.ifCond .gt off, 3)) (ht : (pc : Int) + off = (tgt : Int)) (kt : 0 < x → q_Ex sc i tgt ls st h r h2) (kf : ¬ (0 < x) → q_Ex sc i (pc + 3) ls st h r h2) : q_Ex sc i pc ls (.int x :: st) h r h2 := by
  by_cases hx : 0 < x
  · exact q_go0 (fun p l e R s m args below meth c D b base cA H locs cells slots lsA Q C hR hS hSc hl kk => lv_if_gt C.1 C.2.1 hd ht (fun _ => kk lsA hl) (fun hn => absurd hx hn)) (kt hx)
  · exact q_go0 (fun p l e R s m args below meth c D b base cA H locs cells slots lsA Q C hR hS hSc hl kk => lv_if_gt C.1 C.2.1 hd ht (fun hn => absurd hn hx) (fun _ => kk lsA hl)) (kf hx)
theorem q_ic_gt {sc : Option (Nat × (Nat → Int32))} {i pc : Nat} {ls : List (Nat × Value)} {st : List Value} {h h2 : q_H} {r : Option Value} {x y : Int32} {off : Int} {tgt : Nat} (hd : decode (q_cB i) pc = .ok (.if_icmp .gt off, 3)) (ht : (pc : Int) + off = (tgt : Int)) (kt : y < x → q_Ex sc i tgt ls st h r h2) (kf : ¬ (y < x) → q_Ex sc i (pc + 3) ls st h r h2) : q_Ex sc i pc ls (.int y :: .int x :: st) h r h2 := by
  by_cases hx : y < x
  · exact q_go0 (fun p l e R s m args below meth c D b base cA H locs cells slots lsA Q C hR hS hSc hl kk => lv_icmp_gt C.1 C.2.1 hd ht (fun _ => kk lsA hl) (fun hn => absurd hx hn)) (kt hx)
  · exact q_go0 (fun p l e R s m args below meth c D b base cA H locs cells slots lsA Q C hR hS hSc hl kk => lv_icmp_gt C.1 C.2.1 hd ht (fun hn => absurd hn hx) (fun _ => kk lsA hl)) (kf hx)
theorem q_if_le {sc : Option (Nat × (Nat → Int32))} {i pc : Nat} {ls : List (Nat × Value)} {st : List Value} {h h2 : q_H} {r : Option Value} {x : Int32} {off : Int} {tgt : Nat} (hd : decode (q_cB i) pc = .ok (.ifCond .le off, 3)) (ht : (pc : Int) + off = (tgt : Int)) (kt : x ≤ 0 → q_Ex sc i tgt ls st h r h2) (kf : ¬ (x ≤ 0) → q_Ex sc i (pc + 3) ls st h r h2) : q_Ex sc i pc ls (.int x :: st) h r h2 := by
  by_cases hx : x ≤ 0
  · exact q_go0 (fun p l e R s m args below meth c D b base cA H locs cells slots lsA Q C hR hS hSc hl kk => lv_if_le C.1 C.2.1 hd ht (fun _ => kk lsA hl) (fun hn => absurd hx hn)) (kt hx)
  · exact q_go0 (fun p l e R s m args below meth c D b base cA H locs cells slots lsA Q C hR hS hSc hl kk => lv_if_le C.1 C.2.1 hd ht (fun hn => absurd hn hx) (fun _ => kk lsA hl)) (kf hx)
theorem q_ic_le {sc : Option (Nat × (Nat → Int32))} {i pc : Nat} {ls : List (Nat × Value)} {st : List Value} {h h2 : q_H} {r : Option Value} {x y : Int32} {off : Int} {tgt : Nat} (hd : decode (q_cB i) pc = .ok (.if_icmp .le off, 3)) (ht : (pc : Int) + off = (tgt : Int)) (kt : x ≤ y → q_Ex sc i tgt ls st h r h2) (kf : ¬ (x ≤ y) → q_Ex sc i (pc + 3) ls st h r h2) : q_Ex sc i pc ls (.int y :: .int x :: st) h r h2 := by
  by_cases hx : x ≤ y
  · exact q_go0 (fun p l e R s m args below meth c D b base cA H locs cells slots lsA Q C hR hS hSc hl kk => lv_icmp_le C.1 C.2.1 hd ht (fun _ => kk lsA hl) (fun hn => absurd hx hn)) (kt hx)
  · exact q_go0 (fun p l e R s m args below meth c D b base cA H locs cells slots lsA Q C hR hS hSc hl kk => lv_icmp_le C.1 C.2.1 hd ht (fun hn => absurd hn hx) (fun _ => kk lsA hl)) (kf hx)
theorem q_if_ne {sc : Option (Nat × (Nat → Int32))} {i pc : Nat} {ls : List (Nat × Value)} {st : List Value} {h h2 : q_H} {r : Option Value} {x : Int32} {off : Int} {tgt : Nat} (hd : decode (q_cB i) pc = .ok (.ifCond .ne off, 3)) (ht : (pc : Int) + off = (tgt : Int)) (kt : ¬ (x = 0) → q_Ex sc i tgt ls st h r h2) (kf : x = 0 → q_Ex sc i (pc + 3) ls st h r h2) : q_Ex sc i pc ls (.int x :: st) h r h2 := by
  by_cases hx : x = 0
  · exact q_go0 (fun p l e R s m args below meth c D b base cA H locs cells slots lsA Q C hR hS hSc hl kk => lv_if_ne C.1 C.2.1 hd ht (fun hn => absurd hx hn) (fun _ => kk lsA hl)) (kf hx)
  · exact q_go0 (fun p l e R s m args below meth c D b base cA H locs cells slots lsA Q C hR hS hSc hl kk => lv_if_ne C.1 C.2.1 hd ht (fun _ => kk lsA hl) (fun hn => absurd hn hx)) (kt hx)
theorem q_ic_ne {sc : Option (Nat × (Nat → Int32))} {i pc : Nat} {ls : List (Nat × Value)} {st : List Value} {h h2 : q_H} {r : Option Value} {x y : Int32} {off : Int} {tgt : Nat} (hd : decode (q_cB i) pc = .ok (.if_icmp .ne off, 3)) (ht : (pc : Int) + off = (tgt : Int)) (kt : ¬ (x = y) → q_Ex sc i tgt ls st h r h2) (kf : x = y → q_Ex sc i (pc + 3) ls st h r h2) : q_Ex sc i pc ls (.int y :: .int x :: st) h r h2 := by
  by_cases hx : x = y
  · exact q_go0 (fun p l e R s m args below meth c D b base cA H locs cells slots lsA Q C hR hS hSc hl kk => lv_icmp_ne C.1 C.2.1 hd ht (fun hn => absurd hx hn) (fun _ => kk lsA hl)) (kf hx)
  · exact q_go0 (fun p l e R s m args below meth c D b base cA H locs cells slots lsA Q C hR hS hSc hl kk => lv_icmp_ne C.1 C.2.1 hd ht (fun _ => kk lsA hl) (fun hn => absurd hn hx)) (kt hx)
theorem q_lg_eq (x y : Int64) : lg_cmp x y = 0 ↔ x = y := by
  unfold lg_cmp
  by_cases h1 : y < x
  · simp only [h1, if_true]
    have h2 : ¬ x = y := fun e => by subst e; exact absurd h1 (Int64.lt_irrefl)
    have h3 : ¬ x < y := fun e => absurd (Int64.lt_trans h1 e) (Int64.lt_irrefl)
    have h4 : y ≤ x := Int64.le_of_lt h1
    have h5 : ¬ x ≤ y := fun e => absurd (Int64.lt_of_lt_of_le h1 e) (Int64.lt_irrefl)
    simp only [h1, h2, h3, h4, h5, iff_true, iff_false, true_iff, false_iff, not_true, not_false_eq_true]
    try decide
  · by_cases h2 : x = y
    · subst h2
      simp only [h1, if_false, if_true, Int64.le_refl, iff_true, iff_false, true_iff, not_true]
      try decide
    · have h3 : x < y := by
        rcases Int64.lt_or_eq_of_le (Int64.not_lt.mp h1) with q | q
        · exact q
        · exact absurd q h2
      have h4 : ¬ y ≤ x := fun e => absurd (Int64.lt_of_lt_of_le h3 e) (Int64.lt_irrefl)
      have h5 : x ≤ y := Int64.le_of_lt h3
      simp only [h1, h2, h3, h4, h5, if_false, iff_true, iff_false, true_iff, false_iff, not_true, not_false_eq_true]
      try decide
theorem q_lc_eq {sc : Option (Nat × (Nat → Int32))} {i pc : Nat} {ls : List (Nat × Value)} {st : List Value} {h h2 : q_H} {r : Option Value} {x y : Int64} {off : Int} {tgt : Nat} (hd0 : decode (q_cB i) pc = .ok (.lcmp, 1)) (hd : decode (q_cB i) (pc + 1) = .ok (.ifCond .eq off, 3)) (ht : ((pc + 1 : Nat) : Int) + off = (tgt : Int)) (kt : x = y → q_Ex sc i tgt ls st h r h2) (kf : ¬ (x = y) → q_Ex sc i (pc + 4) ls st h r h2) : q_Ex sc i pc ls (.long y :: .long x :: st) h r h2 :=
  q_x_lcmp hd0 (q_if_eq hd ht (fun q => kt ((q_lg_eq x y).mp q)) (fun q => kf (fun q2 => q ((q_lg_eq x y).mpr q2))))
theorem q_lg_ne (x y : Int64) : ¬ lg_cmp x y = 0 ↔ ¬ x = y := by
  unfold lg_cmp
  by_cases h1 : y < x
  · simp only [h1, if_true]
    have h2 : ¬ x = y := fun e => by subst e; exact absurd h1 (Int64.lt_irrefl)
    have h3 : ¬ x < y := fun e => absurd (Int64.lt_trans h1 e) (Int64.lt_irrefl)
    have h4 : y ≤ x := Int64.le_of_lt h1
    have h5 : ¬ x ≤ y := fun e => absurd (Int64.lt_of_lt_of_le h1 e) (Int64.lt_irrefl)
    simp only [h1, h2, h3, h4, h5, iff_true, iff_false, true_iff, false_iff, not_true, not_false_eq_true]
    try decide
  · by_cases h2 : x = y
    · subst h2
      simp only [h1, if_false, if_true, Int64.le_refl, iff_true, iff_false, true_iff, not_true]
      try decide
    · have h3 : x < y := by
        rcases Int64.lt_or_eq_of_le (Int64.not_lt.mp h1) with q | q
        · exact q
        · exact absurd q h2
      have h4 : ¬ y ≤ x := fun e => absurd (Int64.lt_of_lt_of_le h3 e) (Int64.lt_irrefl)
      have h5 : x ≤ y := Int64.le_of_lt h3
      simp only [h1, h2, h3, h4, h5, if_false, iff_true, iff_false, true_iff, false_iff, not_true, not_false_eq_true]
      try decide
theorem q_lc_ne {sc : Option (Nat × (Nat → Int32))} {i pc : Nat} {ls : List (Nat × Value)} {st : List Value} {h h2 : q_H} {r : Option Value} {x y : Int64} {off : Int} {tgt : Nat} (hd0 : decode (q_cB i) pc = .ok (.lcmp, 1)) (hd : decode (q_cB i) (pc + 1) = .ok (.ifCond .ne off, 3)) (ht : ((pc + 1 : Nat) : Int) + off = (tgt : Int)) (kt : ¬ x = y → q_Ex sc i tgt ls st h r h2) (kf : x = y → q_Ex sc i (pc + 4) ls st h r h2) : q_Ex sc i pc ls (.long y :: .long x :: st) h r h2 :=
  q_x_lcmp hd0 (q_if_ne hd ht (fun q => kt ((q_lg_ne x y).mp q)) (fun q => kf ((q_lg_eq x y).mp q)))
theorem q_lg_lt (x y : Int64) : lg_cmp x y < 0 ↔ x < y := by
  unfold lg_cmp
  by_cases h1 : y < x
  · simp only [h1, if_true]
    have h2 : ¬ x = y := fun e => by subst e; exact absurd h1 (Int64.lt_irrefl)
    have h3 : ¬ x < y := fun e => absurd (Int64.lt_trans h1 e) (Int64.lt_irrefl)
    have h4 : y ≤ x := Int64.le_of_lt h1
    have h5 : ¬ x ≤ y := fun e => absurd (Int64.lt_of_lt_of_le h1 e) (Int64.lt_irrefl)
    simp only [h1, h2, h3, h4, h5, iff_true, iff_false, true_iff, false_iff, not_true, not_false_eq_true]
    try decide
  · by_cases h2 : x = y
    · subst h2
      simp only [h1, if_false, if_true, Int64.le_refl, iff_true, iff_false, true_iff, not_true]
      try decide
    · have h3 : x < y := by
        rcases Int64.lt_or_eq_of_le (Int64.not_lt.mp h1) with q | q
        · exact q
        · exact absurd q h2
      have h4 : ¬ y ≤ x := fun e => absurd (Int64.lt_of_lt_of_le h3 e) (Int64.lt_irrefl)
      have h5 : x ≤ y := Int64.le_of_lt h3
      simp only [h1, h2, h3, h4, h5, if_false, iff_true, iff_false, true_iff, false_iff, not_true, not_false_eq_true]
      try decide
theorem q_lc_lt {sc : Option (Nat × (Nat → Int32))} {i pc : Nat} {ls : List (Nat × Value)} {st : List Value} {h h2 : q_H} {r : Option Value} {x y : Int64} {off : Int} {tgt : Nat} (hd0 : decode (q_cB i) pc = .ok (.lcmp, 1)) (hd : decode (q_cB i) (pc + 1) = .ok (.ifCond .lt off, 3)) (ht : ((pc + 1 : Nat) : Int) + off = (tgt : Int)) (kt : x < y → q_Ex sc i tgt ls st h r h2) (kf : ¬ (x < y) → q_Ex sc i (pc + 4) ls st h r h2) : q_Ex sc i pc ls (.long y :: .long x :: st) h r h2 :=
  q_x_lcmp hd0 (q_if_lt hd ht (fun q => kt ((q_lg_lt x y).mp q)) (fun q => kf (fun q2 => q ((q_lg_lt x y).mpr q2))))
theorem q_lg_ge (x y : Int64) : 0 ≤ lg_cmp x y ↔ y ≤ x := by
  unfold lg_cmp
  by_cases h1 : y < x
  · simp only [h1, if_true]
    have h2 : ¬ x = y := fun e => by subst e; exact absurd h1 (Int64.lt_irrefl)
    have h3 : ¬ x < y := fun e => absurd (Int64.lt_trans h1 e) (Int64.lt_irrefl)
    have h4 : y ≤ x := Int64.le_of_lt h1
    have h5 : ¬ x ≤ y := fun e => absurd (Int64.lt_of_lt_of_le h1 e) (Int64.lt_irrefl)
    simp only [h1, h2, h3, h4, h5, iff_true, iff_false, true_iff, false_iff, not_true, not_false_eq_true]
    try decide
  · by_cases h2 : x = y
    · subst h2
      simp only [h1, if_false, if_true, Int64.le_refl, iff_true, iff_false, true_iff, not_true]
      try decide
    · have h3 : x < y := by
        rcases Int64.lt_or_eq_of_le (Int64.not_lt.mp h1) with q | q
        · exact q
        · exact absurd q h2
      have h4 : ¬ y ≤ x := fun e => absurd (Int64.lt_of_lt_of_le h3 e) (Int64.lt_irrefl)
      have h5 : x ≤ y := Int64.le_of_lt h3
      simp only [h1, h2, h3, h4, h5, if_false, iff_true, iff_false, true_iff, false_iff, not_true, not_false_eq_true]
      try decide
theorem q_lc_ge {sc : Option (Nat × (Nat → Int32))} {i pc : Nat} {ls : List (Nat × Value)} {st : List Value} {h h2 : q_H} {r : Option Value} {x y : Int64} {off : Int} {tgt : Nat} (hd0 : decode (q_cB i) pc = .ok (.lcmp, 1)) (hd : decode (q_cB i) (pc + 1) = .ok (.ifCond .ge off, 3)) (ht : ((pc + 1 : Nat) : Int) + off = (tgt : Int)) (kt : y ≤ x → q_Ex sc i tgt ls st h r h2) (kf : ¬ (y ≤ x) → q_Ex sc i (pc + 4) ls st h r h2) : q_Ex sc i pc ls (.long y :: .long x :: st) h r h2 :=
  q_x_lcmp hd0 (q_if_ge hd ht (fun q => kt ((q_lg_ge x y).mp q)) (fun q => kf (fun q2 => q ((q_lg_ge x y).mpr q2))))
theorem q_lg_gt (x y : Int64) : 0 < lg_cmp x y ↔ y < x := by
  unfold lg_cmp
  by_cases h1 : y < x
  · simp only [h1, if_true]
    have h2 : ¬ x = y := fun e => by subst e; exact absurd h1 (Int64.lt_irrefl)
    have h3 : ¬ x < y := fun e => absurd (Int64.lt_trans h1 e) (Int64.lt_irrefl)
    have h4 : y ≤ x := Int64.le_of_lt h1
    have h5 : ¬ x ≤ y := fun e => absurd (Int64.lt_of_lt_of_le h1 e) (Int64.lt_irrefl)
    simp only [h1, h2, h3, h4, h5, iff_true, iff_false, true_iff, false_iff, not_true, not_false_eq_true]
    try decide
  · by_cases h2 : x = y
    · subst h2
      simp only [h1, if_false, if_true, Int64.le_refl, iff_true, iff_false, true_iff, not_true]
      try decide
    · have h3 : x < y := by
        rcases Int64.lt_or_eq_of_le (Int64.not_lt.mp h1) with q | q
        · exact q
        · exact absurd q h2
      have h4 : ¬ y ≤ x := fun e => absurd (Int64.lt_of_lt_of_le h3 e) (Int64.lt_irrefl)
      have h5 : x ≤ y := Int64.le_of_lt h3
      simp only [h1, h2, h3, h4, h5, if_false, iff_true, iff_false, true_iff, false_iff, not_true, not_false_eq_true]
      try decide
theorem q_lc_gt {sc : Option (Nat × (Nat → Int32))} {i pc : Nat} {ls : List (Nat × Value)} {st : List Value} {h h2 : q_H} {r : Option Value} {x y : Int64} {off : Int} {tgt : Nat} (hd0 : decode (q_cB i) pc = .ok (.lcmp, 1)) (hd : decode (q_cB i) (pc + 1) = .ok (.ifCond .gt off, 3)) (ht : ((pc + 1 : Nat) : Int) + off = (tgt : Int)) (kt : y < x → q_Ex sc i tgt ls st h r h2) (kf : ¬ (y < x) → q_Ex sc i (pc + 4) ls st h r h2) : q_Ex sc i pc ls (.long y :: .long x :: st) h r h2 :=
  q_x_lcmp hd0 (q_if_gt hd ht (fun q => kt ((q_lg_gt x y).mp q)) (fun q => kf (fun q2 => q ((q_lg_gt x y).mpr q2))))
theorem q_lg_le (x y : Int64) : lg_cmp x y ≤ 0 ↔ x ≤ y := by
  unfold lg_cmp
  by_cases h1 : y < x
  · simp only [h1, if_true]
    have h2 : ¬ x = y := fun e => by subst e; exact absurd h1 (Int64.lt_irrefl)
    have h3 : ¬ x < y := fun e => absurd (Int64.lt_trans h1 e) (Int64.lt_irrefl)
    have h4 : y ≤ x := Int64.le_of_lt h1
    have h5 : ¬ x ≤ y := fun e => absurd (Int64.lt_of_lt_of_le h1 e) (Int64.lt_irrefl)
    simp only [h1, h2, h3, h4, h5, iff_true, iff_false, true_iff, false_iff, not_true, not_false_eq_true]
    try decide
  · by_cases h2 : x = y
    · subst h2
      simp only [h1, if_false, if_true, Int64.le_refl, iff_true, iff_false, true_iff, not_true]
      try decide
    · have h3 : x < y := by
        rcases Int64.lt_or_eq_of_le (Int64.not_lt.mp h1) with q | q
        · exact q
        · exact absurd q h2
      have h4 : ¬ y ≤ x := fun e => absurd (Int64.lt_of_lt_of_le h3 e) (Int64.lt_irrefl)
      have h5 : x ≤ y := Int64.le_of_lt h3
      simp only [h1, h2, h3, h4, h5, if_false, iff_true, iff_false, true_iff, false_iff, not_true, not_false_eq_true]
      try decide
theorem q_lc_le {sc : Option (Nat × (Nat → Int32))} {i pc : Nat} {ls : List (Nat × Value)} {st : List Value} {h h2 : q_H} {r : Option Value} {x y : Int64} {off : Int} {tgt : Nat} (hd0 : decode (q_cB i) pc = .ok (.lcmp, 1)) (hd : decode (q_cB i) (pc + 1) = .ok (.ifCond .le off, 3)) (ht : ((pc + 1 : Nat) : Int) + off = (tgt : Int)) (kt : x ≤ y → q_Ex sc i tgt ls st h r h2) (kf : ¬ (x ≤ y) → q_Ex sc i (pc + 4) ls st h r h2) : q_Ex sc i pc ls (.long y :: .long x :: st) h r h2 :=
  q_x_lcmp hd0 (q_if_le hd ht (fun q => kt ((q_lg_le x y).mp q)) (fun q => kf (fun q2 => q ((q_lg_le x y).mpr q2))))
theorem q_goto {sc : Option (Nat × (Nat → Int32))} {i pc : Nat} {ls : List (Nat × Value)} {st : List Value} {h h2 : q_H} {r : Option Value} {off : Int} {tgt : Nat} (hd : decode (q_cB i) pc = .ok (.goto off, 3)) (ht : (pc : Int) + off = (tgt : Int)) (E : q_Ex sc i tgt ls st h r h2) : q_Ex sc i pc ls st h r h2 := q_go0 (fun p l e R s m args below meth c D b base cA H locs cells slots lsA Q C hR hS hSc hl kk => lv_goto C.1 C.2.1 hd ht (kk lsA hl)) E
theorem q_nul_r {sc : Option (Nat × (Nat → Int32))} {i pc : Nat} {ls : List (Nat × Value)} {st : List Value} {h h2 : q_H} {r : Option Value} {x : Nat} {off : Int} (hd : decode (q_cB i) pc = .ok (.ifnull off, 3)) (E : q_Ex sc i (pc + 3) ls st h r h2) : q_Ex sc i pc ls (.ref x :: st) h r h2 := q_go0 (fun p l e R s m args below meth c D b base cA H locs cells slots lsA Q C hR hS hSc hl kk => lv_ifnull C.1 C.2.1 hd (kk lsA hl)) E
theorem q_nul_n {sc : Option (Nat × (Nat → Int32))} {i pc : Nat} {ls : List (Nat × Value)} {st : List Value} {h h2 : q_H} {r : Option Value} {off : Int} {tgt : Nat} (hd : decode (q_cB i) pc = .ok (.ifnull off, 3)) (ht : (pc : Int) + off = (tgt : Int)) (E : q_Ex sc i tgt ls st h r h2) : q_Ex sc i pc ls (.null :: st) h r h2 := q_go0 (fun p l e R s m args below meth c D b base cA H locs cells slots lsA Q C hR hS hSc hl kk => lv_ifnullN C.1 C.2.1 hd ht (kk lsA hl)) E
theorem q_non_r {sc : Option (Nat × (Nat → Int32))} {i pc : Nat} {ls : List (Nat × Value)} {st : List Value} {h h2 : q_H} {r : Option Value} {x : Nat} {off : Int} {tgt : Nat} (hd : decode (q_cB i) pc = .ok (.ifnonnull off, 3)) (ht : (pc : Int) + off = (tgt : Int)) (E : q_Ex sc i tgt ls st h r h2) : q_Ex sc i pc ls (.ref x :: st) h r h2 := q_go0 (fun p l e R s m args below meth c D b base cA H locs cells slots lsA Q C hR hS hSc hl kk => lv_ifnonnull C.1 C.2.1 hd ht (kk lsA hl)) E
theorem q_non_n {sc : Option (Nat × (Nat → Int32))} {i pc : Nat} {ls : List (Nat × Value)} {st : List Value} {h h2 : q_H} {r : Option Value} {off : Int} (hd : decode (q_cB i) pc = .ok (.ifnonnull off, 3)) (E : q_Ex sc i (pc + 3) ls st h r h2) : q_Ex sc i pc ls (.null :: st) h r h2 := q_go0 (fun p l e R s m args below meth c D b base cA H locs cells slots lsA Q C hR hS hSc hl kk => lv_ifnonnullN C.1 C.2.1 hd (kk lsA hl)) E
theorem q_tabI {sc : Option (Nat × (Nat → Int32))} {i pc : Nat} {ls : List (Nat × Value)} {st : List Value} {h h2 : q_H} {r : Option Value} {dflt lo hi : Int} {offs : Array Int} {len : Nat} {x : Int32} {off : Int} {tgt : Nat} (hd : decode (q_cB i) pc = .ok (.tableswitch dflt lo hi offs, len)) (h1 : ¬ x.toInt < lo) (h9 : ¬ hi < x.toInt) (ho : offs[(x.toInt - lo).toNat]? = some off) (ht : (pc : Int) + off = (tgt : Int)) (E : q_Ex sc i tgt ls st h r h2) : q_Ex sc i pc ls (.int x :: st) h r h2 := q_go0 (fun p l e R s m args below meth c D b base cA H locs cells slots lsA Q C hR hS hSc hl kk => lv_tableIn C.1 C.2.1 hd h1 h9 ho ht (kk lsA hl)) E
theorem q_tabO {sc : Option (Nat × (Nat → Int32))} {i pc : Nat} {ls : List (Nat × Value)} {st : List Value} {h h2 : q_H} {r : Option Value} {dflt lo hi : Int} {offs : Array Int} {len : Nat} {x : Int32} {tgt : Nat} (hd : decode (q_cB i) pc = .ok (.tableswitch dflt lo hi offs, len)) (h1 : x.toInt < lo ∨ hi < x.toInt) (ht : (pc : Int) + dflt = (tgt : Int)) (E : q_Ex sc i tgt ls st h r h2) : q_Ex sc i pc ls (.int x :: st) h r h2 := q_go0 (fun p l e R s m args below meth c D b base cA H locs cells slots lsA Q C hR hS hSc hl kk => lv_tableOut C.1 C.2.1 hd h1 ht (kk lsA hl)) E
theorem q_look {sc : Option (Nat × (Nat → Int32))} {i pc : Nat} {ls : List (Nat × Value)} {st : List Value} {h h2 : q_H} {r : Option Value} {dflt : Int} {ps : Array (Int × Int)} {len : Nat} {x : Int32} {off : Int} {tgt : Nat} (hd : decode (q_cB i) pc = .ok (.lookupswitch dflt ps, len)) (hp : (ps.toList.zip (ps.toList.drop 1)).all (fun (a, next) => a.1 < next.1) = true) (ho : Op.lookupswitch.offset ps.toList dflt x.toInt = off) (ht : (pc : Int) + off = (tgt : Int)) (E : q_Ex sc i tgt ls st h r h2) : q_Ex sc i pc ls (.int x :: st) h r h2 := q_go0 (fun p l e R s m args below meth c D b base cA H locs cells slots lsA Q C hR hS hSc hl kk => lv_lookup C.1 C.2.1 hd hp ho ht (kk lsA hl)) E
theorem q_slen {sc : Option (Nat × (Nat → Int32))} {i pc : Nat} {ls : List (Nat × Value)} {st : List Value} {h h2 : q_H} {r : Option Value} {L : Nat} {xs : Nat → Int32} (hs : sc = some (L, xs)) (hd : decode (q_cB i) pc = .ok (.arraylength, 1)) (E : q_Ex sc i (pc + 1) ls (.int (Int32.ofNat L) :: st) h r h2) : q_Ex sc i pc ls (.ref 0 :: st) h r h2 := q_go0 (fun p l e R s m args below meth c D b base cA H locs cells slots lsA Q C hR hS hSc hl kk => va_slen (A := fun q => base ≤ q) C.1 C.2.1 (hSc L xs hs).1 (hSc L xs hs).2.1 (Nat.not_le.mpr (hSc L xs hs).2.2) hS hd (kk lsA hl)) E
theorem q_sld {sc : Option (Nat × (Nat → Int32))} {i pc : Nat} {ls : List (Nat × Value)} {st : List Value} {h h2 : q_H} {r : Option Value} {L : Nat} {xs : Nat → Int32} {a : Int32} (hs : sc = some (L, xs)) (hin : vp_in a L) (hd : decode (q_cB i) pc = .ok (.iaload, 1)) (E : q_Ex sc i (pc + 1) ls (.int (xs a.toNatClampNeg) :: st) h r h2) : q_Ex sc i pc ls (.int a :: .ref 0 :: st) h r h2 := q_go0 (fun p l e R s m args below meth c D b base cA H locs cells slots lsA Q C hR hS hSc hl kk => va_sld (A := fun q => base ≤ q) C.1 C.2.1 (hSc L xs hs).1 (hSc L xs hs).2.1 (Nat.not_le.mpr (hSc L xs hs).2.2) hS hin hd (kk lsA hl)) E
theorem q_vret {sc : Option (Nat × (Nat → Int32))} {i pc : Nat} {ls : List (Nat × Value)} {h : q_H} (hr : q_mR i = none) (hd : decode (q_cB i) pc = .ok (.return_, 1)) : q_Ex sc i pc ls [] h none h := ⟨⟨Nat.le_refl _, Nat.le_refl _⟩, fun p l e R s m args below meth c D b base cA H locs cells slots s0 lsA Q C hR hS hb hSc e1 e2 e3 e4 hl k => k pc lsA cA H locs cells slots ⟨hd, hr⟩ hR hS e1 e2⟩
theorem q_iret {sc : Option (Nat × (Nat → Int32))} {i pc : Nat} {ls : List (Nat × Value)} {h : q_H} {v : Int32} (ty : FieldType) (hr : q_mR i = some ty) (hn : narrow ty (.int v) = .int v) (hd : decode (q_cB i) pc = .ok (.ireturn, 1)) : q_Ex sc i pc ls [.int v] h (some (.int v)) h := ⟨⟨Nat.le_refl _, Nat.le_refl _⟩, fun p l e R s m args below meth c D b base cA H locs cells slots s0 lsA Q C hR hS hb hSc e1 e2 e3 e4 hl k => k pc lsA cA H locs cells slots ⟨hd, ty, hr, hn⟩ hR hS e1 e2⟩
theorem q_lret {sc : Option (Nat × (Nat → Int32))} {i pc : Nat} {ls : List (Nat × Value)} {h : q_H} {v : Int64} (hr : q_mR i = some .long) (hd : decode (q_cB i) pc = .ok (.lreturn, 1)) : q_Ex sc i pc ls [.long v] h (some (.long v)) h := ⟨⟨Nat.le_refl _, Nat.le_refl _⟩, fun p l e R s m args below meth c D b base cA H locs cells slots s0 lsA Q C hR hS hb hSc e1 e2 e3 e4 hl k => k pc lsA cA H locs cells slots ⟨hd, hr⟩ hR hS e1 e2⟩
theorem q_aret {sc : Option (Nat × (Nat → Int32))} {i pc : Nat} {ls : List (Nat × Value)} {h : q_H} {v : Nat} (n : String) (hr : q_mR i = some (.object n)) (hd : decode (q_cB i) pc = .ok (.areturn, 1)) : q_Ex sc i pc ls [.ref v] h (some (.ref v)) h := ⟨⟨Nat.le_refl _, Nat.le_refl _⟩, fun p l e R s m args below meth c D b base cA H locs cells slots s0 lsA Q C hR hS hb hSc e1 e2 e3 e4 hl k => k pc lsA cA H locs cells slots ⟨hd, n, hr⟩ hR hS e1 e2⟩
theorem q_nret {sc : Option (Nat × (Nat → Int32))} {i pc : Nat} {ls : List (Nat × Value)} {h : q_H} (n : String) (hr : q_mR i = some (.object n)) (hd : decode (q_cB i) pc = .ok (.areturn, 1)) : q_Ex sc i pc ls [.null] h (some .null) h := ⟨⟨Nat.le_refl _, Nat.le_refl _⟩, fun p l e R s m args below meth c D b base cA H locs cells slots s0 lsA Q C hR hS hb hSc e1 e2 e3 e4 hl k => k pc lsA cA H locs cells slots ⟨hd, n, hr⟩ hR hS e1 e2⟩
