/-! straight stretches of code, reckoned: q_stp one instruction, q_run a list of them (written by wip/whole/gen8.py) -/
abbrev q_I : Type := Instr × Nat × Nat × Nat × Int32 × Int64
def q_ln (x : Instr) : Nat := match x with
  | .iload _ => 2
  | .lload _ => 2
  | .aload _ => 2
  | .istore _ => 2
  | .lstore _ => 2
  | .astore _ => 2
  | .bipush _ => 2
  | .ldc _ => 2
  | .sipush _ => 3
  | .ldc_w _ => 3
  | .ldc2_w _ => 3
  | .iinc _ _ => 3
  | .getfield _ => 3
  | .putfield _ => 3
  | _ => 1
def q_kiok (r : Nat × Nat × Int32 × Nat) : Bool := decide (lw_tbl[r.2.2.2]? = some (.constant (q_cn r.1) r.2.1 r.2.2.1)) && goodWord (.constant (q_cn r.1) r.2.1 r.2.2.1)
theorem q_kil_ok : q_kil.all q_kiok = true := by decide +kernel
def q_klok (r : Nat × Nat × Int64 × Nat) : Bool := decide (lw_tbl[r.2.2.2]? = some (.constantLong (q_cn r.1) r.2.1 r.2.2.1)) && goodWord (.constantLong (q_cn r.1) r.2.1 r.2.2.1)
theorem q_kll_ok : q_kll.all q_klok = true := by decide +kernel
def q_ki (c idx : Nat) (v : Int32) : Bool := q_kil.any (fun r => r.1 == c && r.2.1 == idx && decide (r.2.2.1 = v))
def q_kl (c idx : Nat) (v : Int64) : Bool := q_kll.any (fun r => r.1 == c && r.2.1 == idx && decide (r.2.2.1 = v))
theorem q_ki_at {c idx : Nat} {v : Int32} (h : q_ki c idx v = true) : Cond.constant (q_cn c) idx v ∈ q_tbl := by
  obtain ⟨r, hr, h2⟩ := List.any_eq_true.mp h
  simp only [Bool.and_eq_true, beq_iff_eq, decide_eq_true_eq] at h2
  obtain ⟨⟨e1, e2⟩, e3⟩ := h2
  have h1 := List.all_eq_true.mp q_kil_ok r hr
  simp only [q_kiok, Bool.and_eq_true, decide_eq_true_eq] at h1
  rw [e1, e2, e3] at h1
  exact q_tbl_of _ h1.1 h1.2
theorem q_kl_at {c idx : Nat} {v : Int64} (h : q_kl c idx v = true) : Cond.constantLong (q_cn c) idx v ∈ q_tbl := by
  obtain ⟨r, hr, h2⟩ := List.any_eq_true.mp h
  simp only [Bool.and_eq_true, beq_iff_eq, decide_eq_true_eq] at h2
  obtain ⟨⟨e1, e2⟩, e3⟩ := h2
  have h1 := List.all_eq_true.mp q_kll_ok r hr
  simp only [q_klok, Bool.and_eq_true, decide_eq_true_eq] at h1
  rw [e1, e2, e3] at h1
  exact q_tbl_of _ h1.1 h1.2
def q_sid (i : Nat) (x : q_I) : Bool := match x with
  | (.iconst n, _, _, _, c, _) => decide (Int32.ofInt n = c)
  | (.bipush n, _, _, _, c, _) => decide ((Int8.ofInt n).toInt32 = c)
  | (.sipush n, _, _, _, c, _) => decide ((Int16.ofInt n).toInt32 = c)
  | (.lconst n, _, _, _, _, c) => decide (Int64.ofNat n.val = c)
  | (.ldc idx, _, _, _, c, _) => q_ki (q_mC i) idx c
  | (.ldc_w idx, _, _, _, c, _) => q_ki (q_mC i) idx c
  | (.ldc2_w idx, _, _, _, _, c) => q_kl (q_mC i) idx c
  | (.istore k, _) => decide (k < q_mL i)
  | (.astore k, _) => decide (k < q_mL i)
  | (.lstore k, _) => decide (k + 1 < q_mL i)
  | (.istore_n k, _) => decide (k.val < q_mL i)
  | (.astore_n k, _) => decide (k.val < q_mL i)
  | (.lstore_n k, _) => decide (k.val + 1 < q_mL i)
  | (.iinc k n, _, _, _, c, _) => decide (k < q_mL i) && decide (Int32.ofInt n = c)
  | (.getfield idx, _, ci, k, _, _) => q_fd (q_mC i) idx ci k
  | (.putfield idx, _, ci, k, _, _) => q_fd (q_mC i) idx ci k && (decide ((q_tt ci k).2.2.2 = false) || (decide ((q_tt ci k).2.2.2 = true) && decide ((q_mY i).name = "<init>") && decide ((q_tt ci k).1 = q_cn (q_mC i))))
  | _ => true
def q_ok (i pc : Nat) (x : q_I) : Bool := decide (decode (q_cB i) pc = .ok (x.1, q_ln x.1)) && q_sid i x
def q_arr (h : q_H) (n t : Nat) (a : Int32) : Prop := ∃ N, q_kd h n = some (.inr (t, N)) ∧ vp_in a N
abbrev q_S : Type := List (Nat × Value) × List Value × q_H × Prop
def q_s_aconst_null (k1 : Nat) (ci k : Nat) (c1 : Int32) (c2 : Int64) (ls : List (Nat × Value)) (st : List Value) (h : q_H) : Option q_S := match st with
  | st => some (ls, .null :: st, h, True)
theorem q_k_aconst_null {sc : Option (Nat × (Nat → Int32))} {i pc ci k : Nat} {c1 : Int32} {c2 : Int64} {ls ls2 : List (Nat × Value)} {st st2 : List Value} {h h2 hh : q_H} {ob : Prop} {r : Option Value} (hd : decode (q_cB i) pc = .ok (.aconst_null, 1)) (hs : q_s_aconst_null 0 ci k c1 c2 ls st h = some (ls2, st2, h2, ob)) (hob : ob) (E : q_Ex sc i (pc + 1) ls2 st2 h2 r hh) : q_Ex sc i pc ls st h r hh := by
  unfold q_s_aconst_null at hs
  cases hs
  exact q_x_null hd E
def q_s_iconst (k1 : Nat) (ci k : Nat) (c1 : Int32) (c2 : Int64) (ls : List (Nat × Value)) (st : List Value) (h : q_H) : Option q_S := match st with
  | st => some (ls, .int c1 :: st, h, True)
theorem q_k_iconst {sc : Option (Nat × (Nat → Int32))} {i pc ci k : Nat} {c1 : Int32} {c2 : Int64} {ls ls2 : List (Nat × Value)} {st st2 : List Value} {h h2 hh : q_H} {ob : Prop} {r : Option Value} {n : Int} (hd : decode (q_cB i) pc = .ok (.iconst n, 1)) (hside : Int32.ofInt n = c1) (hs : q_s_iconst 0 ci k c1 c2 ls st h = some (ls2, st2, h2, ob)) (hob : ob) (E : q_Ex sc i (pc + 1) ls2 st2 h2 r hh) : q_Ex sc i pc ls st h r hh := by
  unfold q_s_iconst at hs
  cases hs
  exact q_x_iconst hside hd E
def q_s_bipush (k1 : Nat) (ci k : Nat) (c1 : Int32) (c2 : Int64) (ls : List (Nat × Value)) (st : List Value) (h : q_H) : Option q_S := match st with
  | st => some (ls, .int c1 :: st, h, True)
theorem q_k_bipush {sc : Option (Nat × (Nat → Int32))} {i pc ci k : Nat} {c1 : Int32} {c2 : Int64} {ls ls2 : List (Nat × Value)} {st st2 : List Value} {h h2 hh : q_H} {ob : Prop} {r : Option Value} {n : Int} (hd : decode (q_cB i) pc = .ok (.bipush n, 2)) (hside : (Int8.ofInt n).toInt32 = c1) (hs : q_s_bipush 0 ci k c1 c2 ls st h = some (ls2, st2, h2, ob)) (hob : ob) (E : q_Ex sc i (pc + 2) ls2 st2 h2 r hh) : q_Ex sc i pc ls st h r hh := by
  unfold q_s_bipush at hs
  cases hs
  exact q_x_bipush hside hd E
def q_s_sipush (k1 : Nat) (ci k : Nat) (c1 : Int32) (c2 : Int64) (ls : List (Nat × Value)) (st : List Value) (h : q_H) : Option q_S := match st with
  | st => some (ls, .int c1 :: st, h, True)
theorem q_k_sipush {sc : Option (Nat × (Nat → Int32))} {i pc ci k : Nat} {c1 : Int32} {c2 : Int64} {ls ls2 : List (Nat × Value)} {st st2 : List Value} {h h2 hh : q_H} {ob : Prop} {r : Option Value} {n : Int} (hd : decode (q_cB i) pc = .ok (.sipush n, 3)) (hside : (Int16.ofInt n).toInt32 = c1) (hs : q_s_sipush 0 ci k c1 c2 ls st h = some (ls2, st2, h2, ob)) (hob : ob) (E : q_Ex sc i (pc + 3) ls2 st2 h2 r hh) : q_Ex sc i pc ls st h r hh := by
  unfold q_s_sipush at hs
  cases hs
  exact q_x_sipush hside hd E
def q_s_ldc (k1 : Nat) (ci k : Nat) (c1 : Int32) (c2 : Int64) (ls : List (Nat × Value)) (st : List Value) (h : q_H) : Option q_S := match st with
  | st => some (ls, .int c1 :: st, h, True)
theorem q_k_ldc {sc : Option (Nat × (Nat → Int32))} {i pc ci k : Nat} {c1 : Int32} {c2 : Int64} {ls ls2 : List (Nat × Value)} {st st2 : List Value} {h h2 hh : q_H} {ob : Prop} {r : Option Value} {n : Nat} (hd : decode (q_cB i) pc = .ok (.ldc n, 2)) (hside : q_ki (q_mC i) n c1 = true) (hs : q_s_ldc 0 ci k c1 c2 ls st h = some (ls2, st2, h2, ob)) (hob : ob) (E : q_Ex sc i (pc + 2) ls2 st2 h2 r hh) : q_Ex sc i pc ls st h r hh := by
  unfold q_s_ldc at hs
  cases hs
  exact q_x_ldc (q_ki_at hside) hd E
def q_s_ldc_w (k1 : Nat) (ci k : Nat) (c1 : Int32) (c2 : Int64) (ls : List (Nat × Value)) (st : List Value) (h : q_H) : Option q_S := match st with
  | st => some (ls, .int c1 :: st, h, True)
theorem q_k_ldc_w {sc : Option (Nat × (Nat → Int32))} {i pc ci k : Nat} {c1 : Int32} {c2 : Int64} {ls ls2 : List (Nat × Value)} {st st2 : List Value} {h h2 hh : q_H} {ob : Prop} {r : Option Value} {n : Nat} (hd : decode (q_cB i) pc = .ok (.ldc_w n, 3)) (hside : q_ki (q_mC i) n c1 = true) (hs : q_s_ldc_w 0 ci k c1 c2 ls st h = some (ls2, st2, h2, ob)) (hob : ob) (E : q_Ex sc i (pc + 3) ls2 st2 h2 r hh) : q_Ex sc i pc ls st h r hh := by
  unfold q_s_ldc_w at hs
  cases hs
  exact q_x_ldcw (q_ki_at hside) hd E
def q_s_lconst (k1 : Nat) (ci k : Nat) (c1 : Int32) (c2 : Int64) (ls : List (Nat × Value)) (st : List Value) (h : q_H) : Option q_S := match st with
  | st => some (ls, .long c2 :: st, h, True)
theorem q_k_lconst {sc : Option (Nat × (Nat → Int32))} {i pc ci k : Nat} {c1 : Int32} {c2 : Int64} {ls ls2 : List (Nat × Value)} {st st2 : List Value} {h h2 hh : q_H} {ob : Prop} {r : Option Value} {n : Fin 2} (hd : decode (q_cB i) pc = .ok (.lconst n, 1)) (hside : Int64.ofNat n.val = c2) (hs : q_s_lconst 0 ci k c1 c2 ls st h = some (ls2, st2, h2, ob)) (hob : ob) (E : q_Ex sc i (pc + 1) ls2 st2 h2 r hh) : q_Ex sc i pc ls st h r hh := by
  unfold q_s_lconst at hs
  cases hs
  exact q_x_lconst hside hd E
def q_s_ldc2_w (k1 : Nat) (ci k : Nat) (c1 : Int32) (c2 : Int64) (ls : List (Nat × Value)) (st : List Value) (h : q_H) : Option q_S := match st with
  | st => some (ls, .long c2 :: st, h, True)
theorem q_k_ldc2_w {sc : Option (Nat × (Nat → Int32))} {i pc ci k : Nat} {c1 : Int32} {c2 : Int64} {ls ls2 : List (Nat × Value)} {st st2 : List Value} {h h2 hh : q_H} {ob : Prop} {r : Option Value} {n : Nat} (hd : decode (q_cB i) pc = .ok (.ldc2_w n, 3)) (hside : q_kl (q_mC i) n c2 = true) (hs : q_s_ldc2_w 0 ci k c1 c2 ls st h = some (ls2, st2, h2, ob)) (hob : ob) (E : q_Ex sc i (pc + 3) ls2 st2 h2 r hh) : q_Ex sc i pc ls st h r hh := by
  unfold q_s_ldc2_w at hs
  cases hs
  exact q_x_ldc2 (q_kl_at hside) hd E
def q_s_iload (k1 : Nat) (ci k : Nat) (c1 : Int32) (c2 : Int64) (ls : List (Nat × Value)) (st : List Value) (h : q_H) : Option q_S := match st with
  | st => match q_lk ls k1 with
    | some (.int v) => some (ls, .int v :: st, h, True)
    | _ => none
theorem q_k_iload {sc : Option (Nat × (Nat → Int32))} {i pc ci k : Nat} {c1 : Int32} {c2 : Int64} {ls ls2 : List (Nat × Value)} {st st2 : List Value} {h h2 hh : q_H} {ob : Prop} {r : Option Value} {n : Nat} (hd : decode (q_cB i) pc = .ok (.iload n, 2)) (hs : q_s_iload n ci k c1 c2 ls st h = some (ls2, st2, h2, ob)) (hob : ob) (E : q_Ex sc i (pc + 2) ls2 st2 h2 r hh) : q_Ex sc i pc ls st h r hh := by
  unfold q_s_iload at hs
  split at hs
  · cases hs
    exact q_x_iload (by assumption) hd E
  · cases hs
def q_s_iload_n (k1 : Nat) (ci k : Nat) (c1 : Int32) (c2 : Int64) (ls : List (Nat × Value)) (st : List Value) (h : q_H) : Option q_S := match st with
  | st => match q_lk ls k1 with
    | some (.int v) => some (ls, .int v :: st, h, True)
    | _ => none
theorem q_k_iload_n {sc : Option (Nat × (Nat → Int32))} {i pc ci k : Nat} {c1 : Int32} {c2 : Int64} {ls ls2 : List (Nat × Value)} {st st2 : List Value} {h h2 hh : q_H} {ob : Prop} {r : Option Value} {n : Fin 4} (hd : decode (q_cB i) pc = .ok (.iload_n n, 1)) (hs : q_s_iload_n n.val ci k c1 c2 ls st h = some (ls2, st2, h2, ob)) (hob : ob) (E : q_Ex sc i (pc + 1) ls2 st2 h2 r hh) : q_Ex sc i pc ls st h r hh := by
  unfold q_s_iload_n at hs
  split at hs
  · cases hs
    exact q_x_iload_n (by assumption) hd E
  · cases hs
def q_s_lload (k1 : Nat) (ci k : Nat) (c1 : Int32) (c2 : Int64) (ls : List (Nat × Value)) (st : List Value) (h : q_H) : Option q_S := match st with
  | st => match q_lk ls k1 with
    | some (.long v) => some (ls, .long v :: st, h, True)
    | _ => none
theorem q_k_lload {sc : Option (Nat × (Nat → Int32))} {i pc ci k : Nat} {c1 : Int32} {c2 : Int64} {ls ls2 : List (Nat × Value)} {st st2 : List Value} {h h2 hh : q_H} {ob : Prop} {r : Option Value} {n : Nat} (hd : decode (q_cB i) pc = .ok (.lload n, 2)) (hs : q_s_lload n ci k c1 c2 ls st h = some (ls2, st2, h2, ob)) (hob : ob) (E : q_Ex sc i (pc + 2) ls2 st2 h2 r hh) : q_Ex sc i pc ls st h r hh := by
  unfold q_s_lload at hs
  split at hs
  · cases hs
    exact q_x_lload (by assumption) hd E
  · cases hs
def q_s_lload_n (k1 : Nat) (ci k : Nat) (c1 : Int32) (c2 : Int64) (ls : List (Nat × Value)) (st : List Value) (h : q_H) : Option q_S := match st with
  | st => match q_lk ls k1 with
    | some (.long v) => some (ls, .long v :: st, h, True)
    | _ => none
theorem q_k_lload_n {sc : Option (Nat × (Nat → Int32))} {i pc ci k : Nat} {c1 : Int32} {c2 : Int64} {ls ls2 : List (Nat × Value)} {st st2 : List Value} {h h2 hh : q_H} {ob : Prop} {r : Option Value} {n : Fin 4} (hd : decode (q_cB i) pc = .ok (.lload_n n, 1)) (hs : q_s_lload_n n.val ci k c1 c2 ls st h = some (ls2, st2, h2, ob)) (hob : ob) (E : q_Ex sc i (pc + 1) ls2 st2 h2 r hh) : q_Ex sc i pc ls st h r hh := by
  unfold q_s_lload_n at hs
  split at hs
  · cases hs
    exact q_x_lload_n (by assumption) hd E
  · cases hs
def q_s_aload (k1 : Nat) (ci k : Nat) (c1 : Int32) (c2 : Int64) (ls : List (Nat × Value)) (st : List Value) (h : q_H) : Option q_S := match st with
  | st => match q_lk ls k1 with
    | some (.ref v) => some (ls, .ref v :: st, h, True)
    | some .null => some (ls, .null :: st, h, True)
    | _ => none
theorem q_k_aload {sc : Option (Nat × (Nat → Int32))} {i pc ci k : Nat} {c1 : Int32} {c2 : Int64} {ls ls2 : List (Nat × Value)} {st st2 : List Value} {h h2 hh : q_H} {ob : Prop} {r : Option Value} {n : Nat} (hd : decode (q_cB i) pc = .ok (.aload n, 2)) (hs : q_s_aload n ci k c1 c2 ls st h = some (ls2, st2, h2, ob)) (hob : ob) (E : q_Ex sc i (pc + 2) ls2 st2 h2 r hh) : q_Ex sc i pc ls st h r hh := by
  unfold q_s_aload at hs
  split at hs
  · cases hs
    exact q_x_aload (by assumption) hd E
  · cases hs
    exact q_x_aloadN (by assumption) hd E
  · cases hs
def q_s_aload_n (k1 : Nat) (ci k : Nat) (c1 : Int32) (c2 : Int64) (ls : List (Nat × Value)) (st : List Value) (h : q_H) : Option q_S := match st with
  | st => match q_lk ls k1 with
    | some (.ref v) => some (ls, .ref v :: st, h, True)
    | some .null => some (ls, .null :: st, h, True)
    | _ => none
theorem q_k_aload_n {sc : Option (Nat × (Nat → Int32))} {i pc ci k : Nat} {c1 : Int32} {c2 : Int64} {ls ls2 : List (Nat × Value)} {st st2 : List Value} {h h2 hh : q_H} {ob : Prop} {r : Option Value} {n : Fin 4} (hd : decode (q_cB i) pc = .ok (.aload_n n, 1)) (hs : q_s_aload_n n.val ci k c1 c2 ls st h = some (ls2, st2, h2, ob)) (hob : ob) (E : q_Ex sc i (pc + 1) ls2 st2 h2 r hh) : q_Ex sc i pc ls st h r hh := by
  unfold q_s_aload_n at hs
  split at hs
  · cases hs
    exact q_x_aload_n (by assumption) hd E
  · cases hs
    exact q_x_aload_nN (by assumption) hd E
  · cases hs
def q_s_istore (k1 : Nat) (ci k : Nat) (c1 : Int32) (c2 : Int64) (ls : List (Nat × Value)) (st : List Value) (h : q_H) : Option q_S := match st with
  | .int v :: st => some (q_st1 k1 (.int v) ls, st, h, True)
  | _ => none
theorem q_k_istore {sc : Option (Nat × (Nat → Int32))} {i pc ci k : Nat} {c1 : Int32} {c2 : Int64} {ls ls2 : List (Nat × Value)} {st st2 : List Value} {h h2 hh : q_H} {ob : Prop} {r : Option Value} {n : Nat} (hd : decode (q_cB i) pc = .ok (.istore n, 2)) (hside : n < q_mL i) (hs : q_s_istore n ci k c1 c2 ls st h = some (ls2, st2, h2, ob)) (hob : ob) (E : q_Ex sc i (pc + 2) ls2 st2 h2 r hh) : q_Ex sc i pc ls st h r hh := by
  unfold q_s_istore at hs
  split at hs
  · cases hs
    exact q_x_istore hside hd E
  · cases hs
def q_s_istore_n (k1 : Nat) (ci k : Nat) (c1 : Int32) (c2 : Int64) (ls : List (Nat × Value)) (st : List Value) (h : q_H) : Option q_S := match st with
  | .int v :: st => some (q_st1 k1 (.int v) ls, st, h, True)
  | _ => none
theorem q_k_istore_n {sc : Option (Nat × (Nat → Int32))} {i pc ci k : Nat} {c1 : Int32} {c2 : Int64} {ls ls2 : List (Nat × Value)} {st st2 : List Value} {h h2 hh : q_H} {ob : Prop} {r : Option Value} {n : Fin 4} (hd : decode (q_cB i) pc = .ok (.istore_n n, 1)) (hside : n.val < q_mL i) (hs : q_s_istore_n n.val ci k c1 c2 ls st h = some (ls2, st2, h2, ob)) (hob : ob) (E : q_Ex sc i (pc + 1) ls2 st2 h2 r hh) : q_Ex sc i pc ls st h r hh := by
  unfold q_s_istore_n at hs
  split at hs
  · cases hs
    exact q_x_istore_n hside hd E
  · cases hs
def q_s_lstore (k1 : Nat) (ci k : Nat) (c1 : Int32) (c2 : Int64) (ls : List (Nat × Value)) (st : List Value) (h : q_H) : Option q_S := match st with
  | .long v :: st => some (q_st2 k1 (.long v) ls, st, h, True)
  | _ => none
theorem q_k_lstore {sc : Option (Nat × (Nat → Int32))} {i pc ci k : Nat} {c1 : Int32} {c2 : Int64} {ls ls2 : List (Nat × Value)} {st st2 : List Value} {h h2 hh : q_H} {ob : Prop} {r : Option Value} {n : Nat} (hd : decode (q_cB i) pc = .ok (.lstore n, 2)) (hside : n + 1 < q_mL i) (hs : q_s_lstore n ci k c1 c2 ls st h = some (ls2, st2, h2, ob)) (hob : ob) (E : q_Ex sc i (pc + 2) ls2 st2 h2 r hh) : q_Ex sc i pc ls st h r hh := by
  unfold q_s_lstore at hs
  split at hs
  · cases hs
    exact q_x_lstore hside hd E
  · cases hs
def q_s_lstore_n (k1 : Nat) (ci k : Nat) (c1 : Int32) (c2 : Int64) (ls : List (Nat × Value)) (st : List Value) (h : q_H) : Option q_S := match st with
  | .long v :: st => some (q_st2 k1 (.long v) ls, st, h, True)
  | _ => none
theorem q_k_lstore_n {sc : Option (Nat × (Nat → Int32))} {i pc ci k : Nat} {c1 : Int32} {c2 : Int64} {ls ls2 : List (Nat × Value)} {st st2 : List Value} {h h2 hh : q_H} {ob : Prop} {r : Option Value} {n : Fin 4} (hd : decode (q_cB i) pc = .ok (.lstore_n n, 1)) (hside : n.val + 1 < q_mL i) (hs : q_s_lstore_n n.val ci k c1 c2 ls st h = some (ls2, st2, h2, ob)) (hob : ob) (E : q_Ex sc i (pc + 1) ls2 st2 h2 r hh) : q_Ex sc i pc ls st h r hh := by
  unfold q_s_lstore_n at hs
  split at hs
  · cases hs
    exact q_x_lstore_n hside hd E
  · cases hs
def q_s_astore (k1 : Nat) (ci k : Nat) (c1 : Int32) (c2 : Int64) (ls : List (Nat × Value)) (st : List Value) (h : q_H) : Option q_S := match st with
  | .ref v :: st => some (q_st1 k1 (.ref v) ls, st, h, True)
  | .null :: st => some (q_st1 k1 .null ls, st, h, True)
  | _ => none
theorem q_k_astore {sc : Option (Nat × (Nat → Int32))} {i pc ci k : Nat} {c1 : Int32} {c2 : Int64} {ls ls2 : List (Nat × Value)} {st st2 : List Value} {h h2 hh : q_H} {ob : Prop} {r : Option Value} {n : Nat} (hd : decode (q_cB i) pc = .ok (.astore n, 2)) (hside : n < q_mL i) (hs : q_s_astore n ci k c1 c2 ls st h = some (ls2, st2, h2, ob)) (hob : ob) (E : q_Ex sc i (pc + 2) ls2 st2 h2 r hh) : q_Ex sc i pc ls st h r hh := by
  unfold q_s_astore at hs
  split at hs
  · cases hs
    exact q_x_astore hside hd E
  · cases hs
    exact q_x_astoreN hside hd E
  · cases hs
def q_s_astore_n (k1 : Nat) (ci k : Nat) (c1 : Int32) (c2 : Int64) (ls : List (Nat × Value)) (st : List Value) (h : q_H) : Option q_S := match st with
  | .ref v :: st => some (q_st1 k1 (.ref v) ls, st, h, True)
  | .null :: st => some (q_st1 k1 .null ls, st, h, True)
  | _ => none
theorem q_k_astore_n {sc : Option (Nat × (Nat → Int32))} {i pc ci k : Nat} {c1 : Int32} {c2 : Int64} {ls ls2 : List (Nat × Value)} {st st2 : List Value} {h h2 hh : q_H} {ob : Prop} {r : Option Value} {n : Fin 4} (hd : decode (q_cB i) pc = .ok (.astore_n n, 1)) (hside : n.val < q_mL i) (hs : q_s_astore_n n.val ci k c1 c2 ls st h = some (ls2, st2, h2, ob)) (hob : ob) (E : q_Ex sc i (pc + 1) ls2 st2 h2 r hh) : q_Ex sc i pc ls st h r hh := by
  unfold q_s_astore_n at hs
  split at hs
  · cases hs
    exact q_x_astore_n hside hd E
  · cases hs
    exact q_x_astore_nN hside hd E
  · cases hs
def q_s_iinc (k1 : Nat) (ci k : Nat) (c1 : Int32) (c2 : Int64) (ls : List (Nat × Value)) (st : List Value) (h : q_H) : Option q_S := match st with
  | st => match q_lk ls k1 with
    | some (.int v) => some (q_st1 k1 (.int (v + c1)) ls, st, h, True)
    | _ => none
theorem q_k_iinc {sc : Option (Nat × (Nat → Int32))} {i pc ci k : Nat} {c1 : Int32} {c2 : Int64} {ls ls2 : List (Nat × Value)} {st st2 : List Value} {h h2 hh : q_H} {ob : Prop} {r : Option Value} {n : Nat} {n2 : Int} (hd : decode (q_cB i) pc = .ok (.iinc n n2, 3)) (hside : n < q_mL i ∧ Int32.ofInt n2 = c1) (hs : q_s_iinc n ci k c1 c2 ls st h = some (ls2, st2, h2, ob)) (hob : ob) (E : q_Ex sc i (pc + 3) ls2 st2 h2 r hh) : q_Ex sc i pc ls st h r hh := by
  unfold q_s_iinc at hs
  split at hs
  · cases hs
    exact q_x_iinc (by assumption) hside.2 hside.1 hd E
  · cases hs
def q_s_iadd (k1 : Nat) (ci k : Nat) (c1 : Int32) (c2 : Int64) (ls : List (Nat × Value)) (st : List Value) (h : q_H) : Option q_S := match st with
  | .int y :: .int x :: st => some (ls, .int (x + y) :: st, h, True)
  | _ => none
theorem q_k_iadd {sc : Option (Nat × (Nat → Int32))} {i pc ci k : Nat} {c1 : Int32} {c2 : Int64} {ls ls2 : List (Nat × Value)} {st st2 : List Value} {h h2 hh : q_H} {ob : Prop} {r : Option Value} (hd : decode (q_cB i) pc = .ok (.iadd, 1)) (hs : q_s_iadd 0 ci k c1 c2 ls st h = some (ls2, st2, h2, ob)) (hob : ob) (E : q_Ex sc i (pc + 1) ls2 st2 h2 r hh) : q_Ex sc i pc ls st h r hh := by
  unfold q_s_iadd at hs
  split at hs
  · cases hs
    exact q_x_iadd hd E
  · cases hs
def q_s_isub (k1 : Nat) (ci k : Nat) (c1 : Int32) (c2 : Int64) (ls : List (Nat × Value)) (st : List Value) (h : q_H) : Option q_S := match st with
  | .int y :: .int x :: st => some (ls, .int (x - y) :: st, h, True)
  | _ => none
theorem q_k_isub {sc : Option (Nat × (Nat → Int32))} {i pc ci k : Nat} {c1 : Int32} {c2 : Int64} {ls ls2 : List (Nat × Value)} {st st2 : List Value} {h h2 hh : q_H} {ob : Prop} {r : Option Value} (hd : decode (q_cB i) pc = .ok (.isub, 1)) (hs : q_s_isub 0 ci k c1 c2 ls st h = some (ls2, st2, h2, ob)) (hob : ob) (E : q_Ex sc i (pc + 1) ls2 st2 h2 r hh) : q_Ex sc i pc ls st h r hh := by
  unfold q_s_isub at hs
  split at hs
  · cases hs
    exact q_x_isub hd E
  · cases hs
def q_s_imul (k1 : Nat) (ci k : Nat) (c1 : Int32) (c2 : Int64) (ls : List (Nat × Value)) (st : List Value) (h : q_H) : Option q_S := match st with
  | .int y :: .int x :: st => some (ls, .int (x * y) :: st, h, True)
  | _ => none
theorem q_k_imul {sc : Option (Nat × (Nat → Int32))} {i pc ci k : Nat} {c1 : Int32} {c2 : Int64} {ls ls2 : List (Nat × Value)} {st st2 : List Value} {h h2 hh : q_H} {ob : Prop} {r : Option Value} (hd : decode (q_cB i) pc = .ok (.imul, 1)) (hs : q_s_imul 0 ci k c1 c2 ls st h = some (ls2, st2, h2, ob)) (hob : ob) (E : q_Ex sc i (pc + 1) ls2 st2 h2 r hh) : q_Ex sc i pc ls st h r hh := by
  unfold q_s_imul at hs
  split at hs
  · cases hs
    exact q_x_imul hd E
  · cases hs
def q_s_iand (k1 : Nat) (ci k : Nat) (c1 : Int32) (c2 : Int64) (ls : List (Nat × Value)) (st : List Value) (h : q_H) : Option q_S := match st with
  | .int y :: .int x :: st => some (ls, .int (x &&& y) :: st, h, True)
  | _ => none
theorem q_k_iand {sc : Option (Nat × (Nat → Int32))} {i pc ci k : Nat} {c1 : Int32} {c2 : Int64} {ls ls2 : List (Nat × Value)} {st st2 : List Value} {h h2 hh : q_H} {ob : Prop} {r : Option Value} (hd : decode (q_cB i) pc = .ok (.iand, 1)) (hs : q_s_iand 0 ci k c1 c2 ls st h = some (ls2, st2, h2, ob)) (hob : ob) (E : q_Ex sc i (pc + 1) ls2 st2 h2 r hh) : q_Ex sc i pc ls st h r hh := by
  unfold q_s_iand at hs
  split at hs
  · cases hs
    exact q_x_iand hd E
  · cases hs
def q_s_ixor (k1 : Nat) (ci k : Nat) (c1 : Int32) (c2 : Int64) (ls : List (Nat × Value)) (st : List Value) (h : q_H) : Option q_S := match st with
  | .int y :: .int x :: st => some (ls, .int (x ^^^ y) :: st, h, True)
  | _ => none
theorem q_k_ixor {sc : Option (Nat × (Nat → Int32))} {i pc ci k : Nat} {c1 : Int32} {c2 : Int64} {ls ls2 : List (Nat × Value)} {st st2 : List Value} {h h2 hh : q_H} {ob : Prop} {r : Option Value} (hd : decode (q_cB i) pc = .ok (.ixor, 1)) (hs : q_s_ixor 0 ci k c1 c2 ls st h = some (ls2, st2, h2, ob)) (hob : ob) (E : q_Ex sc i (pc + 1) ls2 st2 h2 r hh) : q_Ex sc i pc ls st h r hh := by
  unfold q_s_ixor at hs
  split at hs
  · cases hs
    exact q_x_ixor hd E
  · cases hs
def q_s_ladd (k1 : Nat) (ci k : Nat) (c1 : Int32) (c2 : Int64) (ls : List (Nat × Value)) (st : List Value) (h : q_H) : Option q_S := match st with
  | .long y :: .long x :: st => some (ls, .long (x + y) :: st, h, True)
  | _ => none
theorem q_k_ladd {sc : Option (Nat × (Nat → Int32))} {i pc ci k : Nat} {c1 : Int32} {c2 : Int64} {ls ls2 : List (Nat × Value)} {st st2 : List Value} {h h2 hh : q_H} {ob : Prop} {r : Option Value} (hd : decode (q_cB i) pc = .ok (.ladd, 1)) (hs : q_s_ladd 0 ci k c1 c2 ls st h = some (ls2, st2, h2, ob)) (hob : ob) (E : q_Ex sc i (pc + 1) ls2 st2 h2 r hh) : q_Ex sc i pc ls st h r hh := by
  unfold q_s_ladd at hs
  split at hs
  · cases hs
    exact q_x_ladd hd E
  · cases hs
def q_s_lsub (k1 : Nat) (ci k : Nat) (c1 : Int32) (c2 : Int64) (ls : List (Nat × Value)) (st : List Value) (h : q_H) : Option q_S := match st with
  | .long y :: .long x :: st => some (ls, .long (x - y) :: st, h, True)
  | _ => none
theorem q_k_lsub {sc : Option (Nat × (Nat → Int32))} {i pc ci k : Nat} {c1 : Int32} {c2 : Int64} {ls ls2 : List (Nat × Value)} {st st2 : List Value} {h h2 hh : q_H} {ob : Prop} {r : Option Value} (hd : decode (q_cB i) pc = .ok (.lsub, 1)) (hs : q_s_lsub 0 ci k c1 c2 ls st h = some (ls2, st2, h2, ob)) (hob : ob) (E : q_Ex sc i (pc + 1) ls2 st2 h2 r hh) : q_Ex sc i pc ls st h r hh := by
  unfold q_s_lsub at hs
  split at hs
  · cases hs
    exact q_x_lsub hd E
  · cases hs
def q_s_lmul (k1 : Nat) (ci k : Nat) (c1 : Int32) (c2 : Int64) (ls : List (Nat × Value)) (st : List Value) (h : q_H) : Option q_S := match st with
  | .long y :: .long x :: st => some (ls, .long (x * y) :: st, h, True)
  | _ => none
theorem q_k_lmul {sc : Option (Nat × (Nat → Int32))} {i pc ci k : Nat} {c1 : Int32} {c2 : Int64} {ls ls2 : List (Nat × Value)} {st st2 : List Value} {h h2 hh : q_H} {ob : Prop} {r : Option Value} (hd : decode (q_cB i) pc = .ok (.lmul, 1)) (hs : q_s_lmul 0 ci k c1 c2 ls st h = some (ls2, st2, h2, ob)) (hob : ob) (E : q_Ex sc i (pc + 1) ls2 st2 h2 r hh) : q_Ex sc i pc ls st h r hh := by
  unfold q_s_lmul at hs
  split at hs
  · cases hs
    exact q_x_lmul hd E
  · cases hs
def q_s_lxor (k1 : Nat) (ci k : Nat) (c1 : Int32) (c2 : Int64) (ls : List (Nat × Value)) (st : List Value) (h : q_H) : Option q_S := match st with
  | .long y :: .long x :: st => some (ls, .long (x ^^^ y) :: st, h, True)
  | _ => none
theorem q_k_lxor {sc : Option (Nat × (Nat → Int32))} {i pc ci k : Nat} {c1 : Int32} {c2 : Int64} {ls ls2 : List (Nat × Value)} {st st2 : List Value} {h h2 hh : q_H} {ob : Prop} {r : Option Value} (hd : decode (q_cB i) pc = .ok (.lxor, 1)) (hs : q_s_lxor 0 ci k c1 c2 ls st h = some (ls2, st2, h2, ob)) (hob : ob) (E : q_Ex sc i (pc + 1) ls2 st2 h2 r hh) : q_Ex sc i pc ls st h r hh := by
  unfold q_s_lxor at hs
  split at hs
  · cases hs
    exact q_x_lxor hd E
  · cases hs
def q_s_idiv (k1 : Nat) (ci k : Nat) (c1 : Int32) (c2 : Int64) (ls : List (Nat × Value)) (st : List Value) (h : q_H) : Option q_S := match st with
  | .int y :: .int x :: st => some (ls, .int (x / y) :: st, h, ¬ y = 0)
  | _ => none
theorem q_k_idiv {sc : Option (Nat × (Nat → Int32))} {i pc ci k : Nat} {c1 : Int32} {c2 : Int64} {ls ls2 : List (Nat × Value)} {st st2 : List Value} {h h2 hh : q_H} {ob : Prop} {r : Option Value} (hd : decode (q_cB i) pc = .ok (.idiv, 1)) (hs : q_s_idiv 0 ci k c1 c2 ls st h = some (ls2, st2, h2, ob)) (hob : ob) (E : q_Ex sc i (pc + 1) ls2 st2 h2 r hh) : q_Ex sc i pc ls st h r hh := by
  unfold q_s_idiv at hs
  split at hs
  · cases hs
    exact q_x_idiv hob hd E
  · cases hs
def q_s_irem (k1 : Nat) (ci k : Nat) (c1 : Int32) (c2 : Int64) (ls : List (Nat × Value)) (st : List Value) (h : q_H) : Option q_S := match st with
  | .int y :: .int x :: st => some (ls, .int (x - x / y * y) :: st, h, ¬ y = 0)
  | _ => none
theorem q_k_irem {sc : Option (Nat × (Nat → Int32))} {i pc ci k : Nat} {c1 : Int32} {c2 : Int64} {ls ls2 : List (Nat × Value)} {st st2 : List Value} {h h2 hh : q_H} {ob : Prop} {r : Option Value} (hd : decode (q_cB i) pc = .ok (.irem, 1)) (hs : q_s_irem 0 ci k c1 c2 ls st h = some (ls2, st2, h2, ob)) (hob : ob) (E : q_Ex sc i (pc + 1) ls2 st2 h2 r hh) : q_Ex sc i pc ls st h r hh := by
  unfold q_s_irem at hs
  split at hs
  · cases hs
    exact q_x_irem hob hd E
  · cases hs
def q_s_ldiv (k1 : Nat) (ci k : Nat) (c1 : Int32) (c2 : Int64) (ls : List (Nat × Value)) (st : List Value) (h : q_H) : Option q_S := match st with
  | .long y :: .long x :: st => some (ls, .long (x / y) :: st, h, ¬ y = 0)
  | _ => none
theorem q_k_ldiv {sc : Option (Nat × (Nat → Int32))} {i pc ci k : Nat} {c1 : Int32} {c2 : Int64} {ls ls2 : List (Nat × Value)} {st st2 : List Value} {h h2 hh : q_H} {ob : Prop} {r : Option Value} (hd : decode (q_cB i) pc = .ok (.ldiv, 1)) (hs : q_s_ldiv 0 ci k c1 c2 ls st h = some (ls2, st2, h2, ob)) (hob : ob) (E : q_Ex sc i (pc + 1) ls2 st2 h2 r hh) : q_Ex sc i pc ls st h r hh := by
  unfold q_s_ldiv at hs
  split at hs
  · cases hs
    exact q_x_ldiv hob hd E
  · cases hs
def q_s_lrem (k1 : Nat) (ci k : Nat) (c1 : Int32) (c2 : Int64) (ls : List (Nat × Value)) (st : List Value) (h : q_H) : Option q_S := match st with
  | .long y :: .long x :: st => some (ls, .long (x - x / y * y) :: st, h, ¬ y = 0)
  | _ => none
theorem q_k_lrem {sc : Option (Nat × (Nat → Int32))} {i pc ci k : Nat} {c1 : Int32} {c2 : Int64} {ls ls2 : List (Nat × Value)} {st st2 : List Value} {h h2 hh : q_H} {ob : Prop} {r : Option Value} (hd : decode (q_cB i) pc = .ok (.lrem, 1)) (hs : q_s_lrem 0 ci k c1 c2 ls st h = some (ls2, st2, h2, ob)) (hob : ob) (E : q_Ex sc i (pc + 1) ls2 st2 h2 r hh) : q_Ex sc i pc ls st h r hh := by
  unfold q_s_lrem at hs
  split at hs
  · cases hs
    exact q_x_lrem hob hd E
  · cases hs
def q_s_ineg (k1 : Nat) (ci k : Nat) (c1 : Int32) (c2 : Int64) (ls : List (Nat × Value)) (st : List Value) (h : q_H) : Option q_S := match st with
  | .int x :: st => some (ls, .int (-x) :: st, h, True)
  | _ => none
theorem q_k_ineg {sc : Option (Nat × (Nat → Int32))} {i pc ci k : Nat} {c1 : Int32} {c2 : Int64} {ls ls2 : List (Nat × Value)} {st st2 : List Value} {h h2 hh : q_H} {ob : Prop} {r : Option Value} (hd : decode (q_cB i) pc = .ok (.ineg, 1)) (hs : q_s_ineg 0 ci k c1 c2 ls st h = some (ls2, st2, h2, ob)) (hob : ob) (E : q_Ex sc i (pc + 1) ls2 st2 h2 r hh) : q_Ex sc i pc ls st h r hh := by
  unfold q_s_ineg at hs
  split at hs
  · cases hs
    exact q_x_ineg hd E
  · cases hs
def q_s_lneg (k1 : Nat) (ci k : Nat) (c1 : Int32) (c2 : Int64) (ls : List (Nat × Value)) (st : List Value) (h : q_H) : Option q_S := match st with
  | .long x :: st => some (ls, .long (-x) :: st, h, True)
  | _ => none
theorem q_k_lneg {sc : Option (Nat × (Nat → Int32))} {i pc ci k : Nat} {c1 : Int32} {c2 : Int64} {ls ls2 : List (Nat × Value)} {st st2 : List Value} {h h2 hh : q_H} {ob : Prop} {r : Option Value} (hd : decode (q_cB i) pc = .ok (.lneg, 1)) (hs : q_s_lneg 0 ci k c1 c2 ls st h = some (ls2, st2, h2, ob)) (hob : ob) (E : q_Ex sc i (pc + 1) ls2 st2 h2 r hh) : q_Ex sc i pc ls st h r hh := by
  unfold q_s_lneg at hs
  split at hs
  · cases hs
    exact q_x_lneg hd E
  · cases hs
def q_s_i2l (k1 : Nat) (ci k : Nat) (c1 : Int32) (c2 : Int64) (ls : List (Nat × Value)) (st : List Value) (h : q_H) : Option q_S := match st with
  | .int x :: st => some (ls, .long x.toInt64 :: st, h, True)
  | _ => none
theorem q_k_i2l {sc : Option (Nat × (Nat → Int32))} {i pc ci k : Nat} {c1 : Int32} {c2 : Int64} {ls ls2 : List (Nat × Value)} {st st2 : List Value} {h h2 hh : q_H} {ob : Prop} {r : Option Value} (hd : decode (q_cB i) pc = .ok (.i2l, 1)) (hs : q_s_i2l 0 ci k c1 c2 ls st h = some (ls2, st2, h2, ob)) (hob : ob) (E : q_Ex sc i (pc + 1) ls2 st2 h2 r hh) : q_Ex sc i pc ls st h r hh := by
  unfold q_s_i2l at hs
  split at hs
  · cases hs
    exact q_x_i2l hd E
  · cases hs
def q_s_l2i (k1 : Nat) (ci k : Nat) (c1 : Int32) (c2 : Int64) (ls : List (Nat × Value)) (st : List Value) (h : q_H) : Option q_S := match st with
  | .long x :: st => some (ls, .int x.toInt32 :: st, h, True)
  | _ => none
theorem q_k_l2i {sc : Option (Nat × (Nat → Int32))} {i pc ci k : Nat} {c1 : Int32} {c2 : Int64} {ls ls2 : List (Nat × Value)} {st st2 : List Value} {h h2 hh : q_H} {ob : Prop} {r : Option Value} (hd : decode (q_cB i) pc = .ok (.l2i, 1)) (hs : q_s_l2i 0 ci k c1 c2 ls st h = some (ls2, st2, h2, ob)) (hob : ob) (E : q_Ex sc i (pc + 1) ls2 st2 h2 r hh) : q_Ex sc i pc ls st h r hh := by
  unfold q_s_l2i at hs
  split at hs
  · cases hs
    exact q_x_l2i hd E
  · cases hs
def q_s_lshr (k1 : Nat) (ci k : Nat) (c1 : Int32) (c2 : Int64) (ls : List (Nat × Value)) (st : List Value) (h : q_H) : Option q_S := match st with
  | .int y :: .long x :: st => some (ls, .long (x >>> (y.toInt64 &&& 63)) :: st, h, True)
  | _ => none
theorem q_k_lshr {sc : Option (Nat × (Nat → Int32))} {i pc ci k : Nat} {c1 : Int32} {c2 : Int64} {ls ls2 : List (Nat × Value)} {st st2 : List Value} {h h2 hh : q_H} {ob : Prop} {r : Option Value} (hd : decode (q_cB i) pc = .ok (.lshr, 1)) (hs : q_s_lshr 0 ci k c1 c2 ls st h = some (ls2, st2, h2, ob)) (hob : ob) (E : q_Ex sc i (pc + 1) ls2 st2 h2 r hh) : q_Ex sc i pc ls st h r hh := by
  unfold q_s_lshr at hs
  split at hs
  · cases hs
    exact q_x_lshr hd E
  · cases hs
def q_s_lcmp (k1 : Nat) (ci k : Nat) (c1 : Int32) (c2 : Int64) (ls : List (Nat × Value)) (st : List Value) (h : q_H) : Option q_S := match st with
  | .long y :: .long x :: st => some (ls, .int (lg_cmp x y) :: st, h, True)
  | _ => none
theorem q_k_lcmp {sc : Option (Nat × (Nat → Int32))} {i pc ci k : Nat} {c1 : Int32} {c2 : Int64} {ls ls2 : List (Nat × Value)} {st st2 : List Value} {h h2 hh : q_H} {ob : Prop} {r : Option Value} (hd : decode (q_cB i) pc = .ok (.lcmp, 1)) (hs : q_s_lcmp 0 ci k c1 c2 ls st h = some (ls2, st2, h2, ob)) (hob : ob) (E : q_Ex sc i (pc + 1) ls2 st2 h2 r hh) : q_Ex sc i pc ls st h r hh := by
  unfold q_s_lcmp at hs
  split at hs
  · cases hs
    exact q_x_lcmp hd E
  · cases hs
def q_s_dup (k1 : Nat) (ci k : Nat) (c1 : Int32) (c2 : Int64) (ls : List (Nat × Value)) (st : List Value) (h : q_H) : Option q_S := match st with
  | .int x :: st => some (ls, .int x :: .int x :: st, h, True)
  | .ref x :: st => some (ls, .ref x :: .ref x :: st, h, True)
  | .null :: st => some (ls, .null :: .null :: st, h, True)
  | _ => none
theorem q_k_dup {sc : Option (Nat × (Nat → Int32))} {i pc ci k : Nat} {c1 : Int32} {c2 : Int64} {ls ls2 : List (Nat × Value)} {st st2 : List Value} {h h2 hh : q_H} {ob : Prop} {r : Option Value} (hd : decode (q_cB i) pc = .ok (.dup, 1)) (hs : q_s_dup 0 ci k c1 c2 ls st h = some (ls2, st2, h2, ob)) (hob : ob) (E : q_Ex sc i (pc + 1) ls2 st2 h2 r hh) : q_Ex sc i pc ls st h r hh := by
  unfold q_s_dup at hs
  split at hs
  · cases hs
    exact q_x_dup_int hd E
  · cases hs
    exact q_x_dup_ref hd E
  · cases hs
    exact q_x_dup_nul hd E
  · cases hs
def q_s_pop (k1 : Nat) (ci k : Nat) (c1 : Int32) (c2 : Int64) (ls : List (Nat × Value)) (st : List Value) (h : q_H) : Option q_S := match st with
  | .int x :: st => some (ls, st, h, True)
  | .ref x :: st => some (ls, st, h, True)
  | .null :: st => some (ls, st, h, True)
  | _ => none
theorem q_k_pop {sc : Option (Nat × (Nat → Int32))} {i pc ci k : Nat} {c1 : Int32} {c2 : Int64} {ls ls2 : List (Nat × Value)} {st st2 : List Value} {h h2 hh : q_H} {ob : Prop} {r : Option Value} (hd : decode (q_cB i) pc = .ok (.pop, 1)) (hs : q_s_pop 0 ci k c1 c2 ls st h = some (ls2, st2, h2, ob)) (hob : ob) (E : q_Ex sc i (pc + 1) ls2 st2 h2 r hh) : q_Ex sc i pc ls st h r hh := by
  unfold q_s_pop at hs
  split at hs
  · cases hs
    exact q_x_pop_int hd E
  · cases hs
    exact q_x_pop_ref hd E
  · cases hs
    exact q_x_pop_nul hd E
  · cases hs
def q_s_dup2 (k1 : Nat) (ci k : Nat) (c1 : Int32) (c2 : Int64) (ls : List (Nat × Value)) (st : List Value) (h : q_H) : Option q_S := match st with
  | .int x :: .ref a :: st => some (ls, .int x :: .ref a :: .int x :: .ref a :: st, h, True)
  | .long x :: st => some (ls, .long x :: .long x :: st, h, True)
  | _ => none
theorem q_k_dup2 {sc : Option (Nat × (Nat → Int32))} {i pc ci k : Nat} {c1 : Int32} {c2 : Int64} {ls ls2 : List (Nat × Value)} {st st2 : List Value} {h h2 hh : q_H} {ob : Prop} {r : Option Value} (hd : decode (q_cB i) pc = .ok (.dup2, 1)) (hs : q_s_dup2 0 ci k c1 c2 ls st h = some (ls2, st2, h2, ob)) (hob : ob) (E : q_Ex sc i (pc + 1) ls2 st2 h2 r hh) : q_Ex sc i pc ls st h r hh := by
  unfold q_s_dup2 at hs
  split at hs
  · cases hs
    exact q_x_dup2_ia hd E
  · cases hs
    exact q_x_dup2_l hd E
  · cases hs
def q_s_pop2 (k1 : Nat) (ci k : Nat) (c1 : Int32) (c2 : Int64) (ls : List (Nat × Value)) (st : List Value) (h : q_H) : Option q_S := match st with
  | .long x :: st => some (ls, st, h, True)
  | _ => none
theorem q_k_pop2 {sc : Option (Nat × (Nat → Int32))} {i pc ci k : Nat} {c1 : Int32} {c2 : Int64} {ls ls2 : List (Nat × Value)} {st st2 : List Value} {h h2 hh : q_H} {ob : Prop} {r : Option Value} (hd : decode (q_cB i) pc = .ok (.pop2, 1)) (hs : q_s_pop2 0 ci k c1 c2 ls st h = some (ls2, st2, h2, ob)) (hob : ob) (E : q_Ex sc i (pc + 1) ls2 st2 h2 r hh) : q_Ex sc i pc ls st h r hh := by
  unfold q_s_pop2 at hs
  split at hs
  · cases hs
    exact q_x_pop2_l hd E
  · cases hs
def q_s_getfield (k1 : Nat) (ci k : Nat) (c1 : Int32) (c2 : Int64) (ls : List (Nat × Value)) (st : List Value) (h : q_H) : Option q_S := match st with
  | .ref n :: st => some (ls, q_av h ci n k :: st, h, q_kd h n = some (.inl ci))
  | _ => none
theorem q_k_getfield {sc : Option (Nat × (Nat → Int32))} {i pc ci k : Nat} {c1 : Int32} {c2 : Int64} {ls ls2 : List (Nat × Value)} {st st2 : List Value} {h h2 hh : q_H} {ob : Prop} {r : Option Value} {n : Nat} (hd : decode (q_cB i) pc = .ok (.getfield n, 3)) (hside : q_fd (q_mC i) n ci k = true) (hs : q_s_getfield 0 ci k c1 c2 ls st h = some (ls2, st2, h2, ob)) (hob : ob) (E : q_Ex sc i (pc + 3) ls2 st2 h2 r hh) : q_Ex sc i pc ls st h r hh := by
  unfold q_s_getfield at hs
  split at hs
  · cases hs
    exact q_x_get hside hob hd E
  · cases hs
def q_s_putfield (k1 : Nat) (ci k : Nat) (c1 : Int32) (c2 : Int64) (ls : List (Nat × Value)) (st : List Value) (h : q_H) : Option q_S := match st with
  | .int v :: .ref n :: st => if q_fk ci k = 0 then some (ls, st, (h.1, q_u2 h.2.1 n k v, h.2.2.1, h.2.2.2), q_kd h n = some (.inl ci) ∧ narrow (q_ty ci k) (.int v) = .int v ∧ fits (q_ty ci k) (.int v) = true) else none
  | .long v :: .ref n :: st => if q_fk ci k = 1 then some (ls, st, (h.1, h.2.1, q_u2 h.2.2.1 n k v, h.2.2.2), q_kd h n = some (.inl ci)) else none
  | .ref v :: .ref n :: st => if q_fk ci k = 2 then some (ls, st, (h.1, h.2.1, h.2.2.1, q_u2 h.2.2.2 n k (some v)), q_kd h n = some (.inl ci)) else none
  | _ => none
theorem q_k_putfield {sc : Option (Nat × (Nat → Int32))} {i pc ci k : Nat} {c1 : Int32} {c2 : Int64} {ls ls2 : List (Nat × Value)} {st st2 : List Value} {h h2 hh : q_H} {ob : Prop} {r : Option Value} {n : Nat} (hd : decode (q_cB i) pc = .ok (.putfield n, 3)) (hside : q_fd (q_mC i) n ci k = true ∧ ((q_tt ci k).2.2.2 = false ∨ (((q_tt ci k).2.2.2 = true ∧ (q_mY i).name = "<init>") ∧ (q_tt ci k).1 = q_cn (q_mC i)))) (hs : q_s_putfield 0 ci k c1 c2 ls st h = some (ls2, st2, h2, ob)) (hob : ob) (E : q_Ex sc i (pc + 3) ls2 st2 h2 r hh) : q_Ex sc i pc ls st h r hh := by
  unfold q_s_putfield at hs
  split at hs
  · split at hs
    · cases hs
      obtain ⟨hf, hfin | hfin⟩ := hside
      · exact q_x_putI hf (by assumption) hfin hob.1 hob.2 hd E
      · exact q_x_putIF hf (by assumption) hfin.1.1 hfin.1.2 hfin.2 hob.1 hob.2 hd E
    · cases hs
  · split at hs
    · cases hs
      obtain ⟨hf, hfin | hfin⟩ := hside
      · exact q_x_putL hf (by assumption) hfin hob hd E
      · exact q_x_putLF hf (by assumption) hfin.1.1 hfin.1.2 hfin.2 hob hd E
    · cases hs
  · split at hs
    · cases hs
      obtain ⟨hf, hfin | hfin⟩ := hside
      · exact q_x_putR hf (by assumption) hfin hob hd E
      · exact q_x_putRF hf (by assumption) hfin.1.1 hfin.1.2 hfin.2 hob hd E
    · cases hs
  · cases hs
def q_s_iaload (k1 : Nat) (ci k : Nat) (c1 : Int32) (c2 : Int64) (ls : List (Nat × Value)) (st : List Value) (h : q_H) : Option q_S := match st with
  | .int a :: .ref n :: st => some (ls, .int (h.2.1 n a.toNatClampNeg) :: st, h, q_arr h n 0 a)
  | _ => none
theorem q_k_iaload {sc : Option (Nat × (Nat → Int32))} {i pc ci k : Nat} {c1 : Int32} {c2 : Int64} {ls ls2 : List (Nat × Value)} {st st2 : List Value} {h h2 hh : q_H} {ob : Prop} {r : Option Value} (hd : decode (q_cB i) pc = .ok (.iaload, 1)) (hs : q_s_iaload 0 ci k c1 c2 ls st h = some (ls2, st2, h2, ob)) (hob : ob) (E : q_Ex sc i (pc + 1) ls2 st2 h2 r hh) : q_Ex sc i pc ls st h r hh := by
  unfold q_s_iaload at hs
  split at hs
  · cases hs
    exact q_x_iald hob.choose_spec.1 hob.choose_spec.2 hd E
  · cases hs
def q_s_laload (k1 : Nat) (ci k : Nat) (c1 : Int32) (c2 : Int64) (ls : List (Nat × Value)) (st : List Value) (h : q_H) : Option q_S := match st with
  | .int a :: .ref n :: st => some (ls, .long (h.2.2.1 n a.toNatClampNeg) :: st, h, q_arr h n 1 a)
  | _ => none
theorem q_k_laload {sc : Option (Nat × (Nat → Int32))} {i pc ci k : Nat} {c1 : Int32} {c2 : Int64} {ls ls2 : List (Nat × Value)} {st st2 : List Value} {h h2 hh : q_H} {ob : Prop} {r : Option Value} (hd : decode (q_cB i) pc = .ok (.laload, 1)) (hs : q_s_laload 0 ci k c1 c2 ls st h = some (ls2, st2, h2, ob)) (hob : ob) (E : q_Ex sc i (pc + 1) ls2 st2 h2 r hh) : q_Ex sc i pc ls st h r hh := by
  unfold q_s_laload at hs
  split at hs
  · cases hs
    exact q_x_lald hob.choose_spec.1 hob.choose_spec.2 hd E
  · cases hs
def q_s_aaload (k1 : Nat) (ci k : Nat) (c1 : Int32) (c2 : Int64) (ls : List (Nat × Value)) (st : List Value) (h : q_H) : Option q_S := match st with
  | .int a :: .ref n :: st => some (ls, va_rf (h.2.2.2 n a.toNatClampNeg) :: st, h, q_arr h n 2 a)
  | _ => none
theorem q_k_aaload {sc : Option (Nat × (Nat → Int32))} {i pc ci k : Nat} {c1 : Int32} {c2 : Int64} {ls ls2 : List (Nat × Value)} {st st2 : List Value} {h h2 hh : q_H} {ob : Prop} {r : Option Value} (hd : decode (q_cB i) pc = .ok (.aaload, 1)) (hs : q_s_aaload 0 ci k c1 c2 ls st h = some (ls2, st2, h2, ob)) (hob : ob) (E : q_Ex sc i (pc + 1) ls2 st2 h2 r hh) : q_Ex sc i pc ls st h r hh := by
  unfold q_s_aaload at hs
  split at hs
  · cases hs
    exact q_x_aald hob.choose_spec.1 hob.choose_spec.2 hd E
  · cases hs
def q_s_iastore (k1 : Nat) (ci k : Nat) (c1 : Int32) (c2 : Int64) (ls : List (Nat × Value)) (st : List Value) (h : q_H) : Option q_S := match st with
  | .int v :: .int a :: .ref n :: st => some (ls, st, (h.1, q_u2 h.2.1 n a.toNatClampNeg v, h.2.2.1, h.2.2.2), q_arr h n 0 a)
  | _ => none
theorem q_k_iastore {sc : Option (Nat × (Nat → Int32))} {i pc ci k : Nat} {c1 : Int32} {c2 : Int64} {ls ls2 : List (Nat × Value)} {st st2 : List Value} {h h2 hh : q_H} {ob : Prop} {r : Option Value} (hd : decode (q_cB i) pc = .ok (.iastore, 1)) (hs : q_s_iastore 0 ci k c1 c2 ls st h = some (ls2, st2, h2, ob)) (hob : ob) (E : q_Ex sc i (pc + 1) ls2 st2 h2 r hh) : q_Ex sc i pc ls st h r hh := by
  unfold q_s_iastore at hs
  split at hs
  · cases hs
    exact q_x_iast hob.choose_spec.1 hob.choose_spec.2 hd E
  · cases hs
def q_s_lastore (k1 : Nat) (ci k : Nat) (c1 : Int32) (c2 : Int64) (ls : List (Nat × Value)) (st : List Value) (h : q_H) : Option q_S := match st with
  | .long v :: .int a :: .ref n :: st => some (ls, st, (h.1, h.2.1, q_u2 h.2.2.1 n a.toNatClampNeg v, h.2.2.2), q_arr h n 1 a)
  | _ => none
theorem q_k_lastore {sc : Option (Nat × (Nat → Int32))} {i pc ci k : Nat} {c1 : Int32} {c2 : Int64} {ls ls2 : List (Nat × Value)} {st st2 : List Value} {h h2 hh : q_H} {ob : Prop} {r : Option Value} (hd : decode (q_cB i) pc = .ok (.lastore, 1)) (hs : q_s_lastore 0 ci k c1 c2 ls st h = some (ls2, st2, h2, ob)) (hob : ob) (E : q_Ex sc i (pc + 1) ls2 st2 h2 r hh) : q_Ex sc i pc ls st h r hh := by
  unfold q_s_lastore at hs
  split at hs
  · cases hs
    exact q_x_last hob.choose_spec.1 hob.choose_spec.2 hd E
  · cases hs
def q_s_aastore (k1 : Nat) (ci k : Nat) (c1 : Int32) (c2 : Int64) (ls : List (Nat × Value)) (st : List Value) (h : q_H) : Option q_S := match st with
  | .ref v :: .int a :: .ref n :: st => some (ls, st, (h.1, h.2.1, h.2.2.1, q_u2 h.2.2.2 n a.toNatClampNeg (some v)), q_arr h n 2 a ∧ q_kd h v = some (.inl 1))
  | _ => none
theorem q_k_aastore {sc : Option (Nat × (Nat → Int32))} {i pc ci k : Nat} {c1 : Int32} {c2 : Int64} {ls ls2 : List (Nat × Value)} {st st2 : List Value} {h h2 hh : q_H} {ob : Prop} {r : Option Value} (hd : decode (q_cB i) pc = .ok (.aastore, 1)) (hs : q_s_aastore 0 ci k c1 c2 ls st h = some (ls2, st2, h2, ob)) (hob : ob) (E : q_Ex sc i (pc + 1) ls2 st2 h2 r hh) : q_Ex sc i pc ls st h r hh := by
  unfold q_s_aastore at hs
  split at hs
  · cases hs
    exact q_x_aast hob.1.choose_spec.1 hob.1.choose_spec.2 hob.2 hd E
  · cases hs
def q_stp (x : q_I) (ls : List (Nat × Value)) (st : List Value) (h : q_H) : Option q_S := match x.1 with
  | .aconst_null => q_s_aconst_null 0 x.2.2.1 x.2.2.2.1 x.2.2.2.2.1 x.2.2.2.2.2 ls st h
  | .iconst _ => q_s_iconst 0 x.2.2.1 x.2.2.2.1 x.2.2.2.2.1 x.2.2.2.2.2 ls st h
  | .bipush _ => q_s_bipush 0 x.2.2.1 x.2.2.2.1 x.2.2.2.2.1 x.2.2.2.2.2 ls st h
  | .sipush _ => q_s_sipush 0 x.2.2.1 x.2.2.2.1 x.2.2.2.2.1 x.2.2.2.2.2 ls st h
  | .ldc _ => q_s_ldc 0 x.2.2.1 x.2.2.2.1 x.2.2.2.2.1 x.2.2.2.2.2 ls st h
  | .ldc_w _ => q_s_ldc_w 0 x.2.2.1 x.2.2.2.1 x.2.2.2.2.1 x.2.2.2.2.2 ls st h
  | .lconst _ => q_s_lconst 0 x.2.2.1 x.2.2.2.1 x.2.2.2.2.1 x.2.2.2.2.2 ls st h
  | .ldc2_w _ => q_s_ldc2_w 0 x.2.2.1 x.2.2.2.1 x.2.2.2.2.1 x.2.2.2.2.2 ls st h
  | .iload n => q_s_iload n x.2.2.1 x.2.2.2.1 x.2.2.2.2.1 x.2.2.2.2.2 ls st h
  | .iload_n n => q_s_iload_n n.val x.2.2.1 x.2.2.2.1 x.2.2.2.2.1 x.2.2.2.2.2 ls st h
  | .lload n => q_s_lload n x.2.2.1 x.2.2.2.1 x.2.2.2.2.1 x.2.2.2.2.2 ls st h
  | .lload_n n => q_s_lload_n n.val x.2.2.1 x.2.2.2.1 x.2.2.2.2.1 x.2.2.2.2.2 ls st h
  | .aload n => q_s_aload n x.2.2.1 x.2.2.2.1 x.2.2.2.2.1 x.2.2.2.2.2 ls st h
  | .aload_n n => q_s_aload_n n.val x.2.2.1 x.2.2.2.1 x.2.2.2.2.1 x.2.2.2.2.2 ls st h
  | .istore n => q_s_istore n x.2.2.1 x.2.2.2.1 x.2.2.2.2.1 x.2.2.2.2.2 ls st h
  | .istore_n n => q_s_istore_n n.val x.2.2.1 x.2.2.2.1 x.2.2.2.2.1 x.2.2.2.2.2 ls st h
  | .lstore n => q_s_lstore n x.2.2.1 x.2.2.2.1 x.2.2.2.2.1 x.2.2.2.2.2 ls st h
  | .lstore_n n => q_s_lstore_n n.val x.2.2.1 x.2.2.2.1 x.2.2.2.2.1 x.2.2.2.2.2 ls st h
  | .astore n => q_s_astore n x.2.2.1 x.2.2.2.1 x.2.2.2.2.1 x.2.2.2.2.2 ls st h
  | .astore_n n => q_s_astore_n n.val x.2.2.1 x.2.2.2.1 x.2.2.2.2.1 x.2.2.2.2.2 ls st h
  | .iinc n _ => q_s_iinc n x.2.2.1 x.2.2.2.1 x.2.2.2.2.1 x.2.2.2.2.2 ls st h
  | .iadd => q_s_iadd 0 x.2.2.1 x.2.2.2.1 x.2.2.2.2.1 x.2.2.2.2.2 ls st h
  | .isub => q_s_isub 0 x.2.2.1 x.2.2.2.1 x.2.2.2.2.1 x.2.2.2.2.2 ls st h
  | .imul => q_s_imul 0 x.2.2.1 x.2.2.2.1 x.2.2.2.2.1 x.2.2.2.2.2 ls st h
  | .iand => q_s_iand 0 x.2.2.1 x.2.2.2.1 x.2.2.2.2.1 x.2.2.2.2.2 ls st h
  | .ixor => q_s_ixor 0 x.2.2.1 x.2.2.2.1 x.2.2.2.2.1 x.2.2.2.2.2 ls st h
  | .ladd => q_s_ladd 0 x.2.2.1 x.2.2.2.1 x.2.2.2.2.1 x.2.2.2.2.2 ls st h
  | .lsub => q_s_lsub 0 x.2.2.1 x.2.2.2.1 x.2.2.2.2.1 x.2.2.2.2.2 ls st h
  | .lmul => q_s_lmul 0 x.2.2.1 x.2.2.2.1 x.2.2.2.2.1 x.2.2.2.2.2 ls st h
  | .lxor => q_s_lxor 0 x.2.2.1 x.2.2.2.1 x.2.2.2.2.1 x.2.2.2.2.2 ls st h
  | .idiv => q_s_idiv 0 x.2.2.1 x.2.2.2.1 x.2.2.2.2.1 x.2.2.2.2.2 ls st h
  | .irem => q_s_irem 0 x.2.2.1 x.2.2.2.1 x.2.2.2.2.1 x.2.2.2.2.2 ls st h
  | .ldiv => q_s_ldiv 0 x.2.2.1 x.2.2.2.1 x.2.2.2.2.1 x.2.2.2.2.2 ls st h
  | .lrem => q_s_lrem 0 x.2.2.1 x.2.2.2.1 x.2.2.2.2.1 x.2.2.2.2.2 ls st h
  | .ineg => q_s_ineg 0 x.2.2.1 x.2.2.2.1 x.2.2.2.2.1 x.2.2.2.2.2 ls st h
  | .lneg => q_s_lneg 0 x.2.2.1 x.2.2.2.1 x.2.2.2.2.1 x.2.2.2.2.2 ls st h
  | .i2l => q_s_i2l 0 x.2.2.1 x.2.2.2.1 x.2.2.2.2.1 x.2.2.2.2.2 ls st h
  | .l2i => q_s_l2i 0 x.2.2.1 x.2.2.2.1 x.2.2.2.2.1 x.2.2.2.2.2 ls st h
  | .lshr => q_s_lshr 0 x.2.2.1 x.2.2.2.1 x.2.2.2.2.1 x.2.2.2.2.2 ls st h
  | .lcmp => q_s_lcmp 0 x.2.2.1 x.2.2.2.1 x.2.2.2.2.1 x.2.2.2.2.2 ls st h
  | .dup => q_s_dup 0 x.2.2.1 x.2.2.2.1 x.2.2.2.2.1 x.2.2.2.2.2 ls st h
  | .pop => q_s_pop 0 x.2.2.1 x.2.2.2.1 x.2.2.2.2.1 x.2.2.2.2.2 ls st h
  | .dup2 => q_s_dup2 0 x.2.2.1 x.2.2.2.1 x.2.2.2.2.1 x.2.2.2.2.2 ls st h
  | .pop2 => q_s_pop2 0 x.2.2.1 x.2.2.2.1 x.2.2.2.2.1 x.2.2.2.2.2 ls st h
  | .getfield _ => q_s_getfield 0 x.2.2.1 x.2.2.2.1 x.2.2.2.2.1 x.2.2.2.2.2 ls st h
  | .putfield _ => q_s_putfield 0 x.2.2.1 x.2.2.2.1 x.2.2.2.2.1 x.2.2.2.2.2 ls st h
  | .iaload => q_s_iaload 0 x.2.2.1 x.2.2.2.1 x.2.2.2.2.1 x.2.2.2.2.2 ls st h
  | .laload => q_s_laload 0 x.2.2.1 x.2.2.2.1 x.2.2.2.2.1 x.2.2.2.2.2 ls st h
  | .aaload => q_s_aaload 0 x.2.2.1 x.2.2.2.1 x.2.2.2.2.1 x.2.2.2.2.2 ls st h
  | .iastore => q_s_iastore 0 x.2.2.1 x.2.2.2.1 x.2.2.2.2.1 x.2.2.2.2.2 ls st h
  | .lastore => q_s_lastore 0 x.2.2.1 x.2.2.2.1 x.2.2.2.2.1 x.2.2.2.2.2 ls st h
  | .aastore => q_s_aastore 0 x.2.2.1 x.2.2.2.1 x.2.2.2.2.1 x.2.2.2.2.2 ls st h
  | _ => none
theorem q_stp_ok {sc : Option (Nat × (Nat → Int32))} {i pc : Nat} {x : q_I} {ls ls2 : List (Nat × Value)} {st st2 : List Value} {h h2 hh : q_H} {ob : Prop} {r : Option Value} (hok : q_ok i pc x = true) (hs : q_stp x ls st h = some (ls2, st2, h2, ob)) (hob : ob) (E : q_Ex sc i (pc + q_ln x.1) ls2 st2 h2 r hh) : q_Ex sc i pc ls st h r hh := by
  simp only [q_ok, Bool.and_eq_true, decide_eq_true_eq] at hok
  obtain ⟨hd, hside⟩ := hok
  obtain ⟨ins, len, ci, k, c1, c2⟩ := x
  cases ins
  case aconst_null => exact q_k_aconst_null (ci := ci) (k := k) (c1 := c1) (c2 := c2) hd hs hob E
  case iconst => exact q_k_iconst (ci := ci) (k := k) (c1 := c1) (c2 := c2) hd (of_decide_eq_true hside) hs hob E
  case bipush => exact q_k_bipush (ci := ci) (k := k) (c1 := c1) (c2 := c2) hd (of_decide_eq_true hside) hs hob E
  case sipush => exact q_k_sipush (ci := ci) (k := k) (c1 := c1) (c2 := c2) hd (of_decide_eq_true hside) hs hob E
  case ldc => exact q_k_ldc (ci := ci) (k := k) (c1 := c1) (c2 := c2) hd hside hs hob E
  case ldc_w => exact q_k_ldc_w (ci := ci) (k := k) (c1 := c1) (c2 := c2) hd hside hs hob E
  case lconst => exact q_k_lconst (ci := ci) (k := k) (c1 := c1) (c2 := c2) hd (of_decide_eq_true hside) hs hob E
  case ldc2_w => exact q_k_ldc2_w (ci := ci) (k := k) (c1 := c1) (c2 := c2) hd hside hs hob E
  case iload => exact q_k_iload (ci := ci) (k := k) (c1 := c1) (c2 := c2) hd hs hob E
  case iload_n => exact q_k_iload_n (ci := ci) (k := k) (c1 := c1) (c2 := c2) hd hs hob E
  case lload => exact q_k_lload (ci := ci) (k := k) (c1 := c1) (c2 := c2) hd hs hob E
  case lload_n => exact q_k_lload_n (ci := ci) (k := k) (c1 := c1) (c2 := c2) hd hs hob E
  case aload => exact q_k_aload (ci := ci) (k := k) (c1 := c1) (c2 := c2) hd hs hob E
  case aload_n => exact q_k_aload_n (ci := ci) (k := k) (c1 := c1) (c2 := c2) hd hs hob E
  case istore => exact q_k_istore (ci := ci) (k := k) (c1 := c1) (c2 := c2) hd (of_decide_eq_true hside) hs hob E
  case istore_n => exact q_k_istore_n (ci := ci) (k := k) (c1 := c1) (c2 := c2) hd (of_decide_eq_true hside) hs hob E
  case lstore => exact q_k_lstore (ci := ci) (k := k) (c1 := c1) (c2 := c2) hd (of_decide_eq_true hside) hs hob E
  case lstore_n => exact q_k_lstore_n (ci := ci) (k := k) (c1 := c1) (c2 := c2) hd (of_decide_eq_true hside) hs hob E
  case astore => exact q_k_astore (ci := ci) (k := k) (c1 := c1) (c2 := c2) hd (of_decide_eq_true hside) hs hob E
  case astore_n => exact q_k_astore_n (ci := ci) (k := k) (c1 := c1) (c2 := c2) hd (of_decide_eq_true hside) hs hob E
  case iinc => exact q_k_iinc (ci := ci) (k := k) (c1 := c1) (c2 := c2) hd (by simp only [q_sid, Bool.and_eq_true, decide_eq_true_eq] at hside; exact hside) hs hob E
  case iadd => exact q_k_iadd (ci := ci) (k := k) (c1 := c1) (c2 := c2) hd hs hob E
  case isub => exact q_k_isub (ci := ci) (k := k) (c1 := c1) (c2 := c2) hd hs hob E
  case imul => exact q_k_imul (ci := ci) (k := k) (c1 := c1) (c2 := c2) hd hs hob E
  case iand => exact q_k_iand (ci := ci) (k := k) (c1 := c1) (c2 := c2) hd hs hob E
  case ixor => exact q_k_ixor (ci := ci) (k := k) (c1 := c1) (c2 := c2) hd hs hob E
  case ladd => exact q_k_ladd (ci := ci) (k := k) (c1 := c1) (c2 := c2) hd hs hob E
  case lsub => exact q_k_lsub (ci := ci) (k := k) (c1 := c1) (c2 := c2) hd hs hob E
  case lmul => exact q_k_lmul (ci := ci) (k := k) (c1 := c1) (c2 := c2) hd hs hob E
  case lxor => exact q_k_lxor (ci := ci) (k := k) (c1 := c1) (c2 := c2) hd hs hob E
  case idiv => exact q_k_idiv (ci := ci) (k := k) (c1 := c1) (c2 := c2) hd hs hob E
  case irem => exact q_k_irem (ci := ci) (k := k) (c1 := c1) (c2 := c2) hd hs hob E
  case ldiv => exact q_k_ldiv (ci := ci) (k := k) (c1 := c1) (c2 := c2) hd hs hob E
  case lrem => exact q_k_lrem (ci := ci) (k := k) (c1 := c1) (c2 := c2) hd hs hob E
  case ineg => exact q_k_ineg (ci := ci) (k := k) (c1 := c1) (c2 := c2) hd hs hob E
  case lneg => exact q_k_lneg (ci := ci) (k := k) (c1 := c1) (c2 := c2) hd hs hob E
  case i2l => exact q_k_i2l (ci := ci) (k := k) (c1 := c1) (c2 := c2) hd hs hob E
  case l2i => exact q_k_l2i (ci := ci) (k := k) (c1 := c1) (c2 := c2) hd hs hob E
  case lshr => exact q_k_lshr (ci := ci) (k := k) (c1 := c1) (c2 := c2) hd hs hob E
  case lcmp => exact q_k_lcmp (ci := ci) (k := k) (c1 := c1) (c2 := c2) hd hs hob E
  case dup => exact q_k_dup (ci := ci) (k := k) (c1 := c1) (c2 := c2) hd hs hob E
  case pop => exact q_k_pop (ci := ci) (k := k) (c1 := c1) (c2 := c2) hd hs hob E
  case dup2 => exact q_k_dup2 (ci := ci) (k := k) (c1 := c1) (c2 := c2) hd hs hob E
  case pop2 => exact q_k_pop2 (ci := ci) (k := k) (c1 := c1) (c2 := c2) hd hs hob E
  case getfield => exact q_k_getfield (ci := ci) (k := k) (c1 := c1) (c2 := c2) hd hside hs hob E
  case putfield => exact q_k_putfield (ci := ci) (k := k) (c1 := c1) (c2 := c2) hd (by simp only [q_sid, Bool.and_eq_true, Bool.or_eq_true, decide_eq_true_eq] at hside; exact hside) hs hob E
  case iaload => exact q_k_iaload (ci := ci) (k := k) (c1 := c1) (c2 := c2) hd hs hob E
  case laload => exact q_k_laload (ci := ci) (k := k) (c1 := c1) (c2 := c2) hd hs hob E
  case aaload => exact q_k_aaload (ci := ci) (k := k) (c1 := c1) (c2 := c2) hd hs hob E
  case iastore => exact q_k_iastore (ci := ci) (k := k) (c1 := c1) (c2 := c2) hd hs hob E
  case lastore => exact q_k_lastore (ci := ci) (k := k) (c1 := c1) (c2 := c2) hd hs hob E
  case aastore => exact q_k_aastore (ci := ci) (k := k) (c1 := c1) (c2 := c2) hd hs hob E
  all_goals exact absurd hs (by intro q; cases q)
def q_run (is : List q_I) (ls : List (Nat × Value)) (st : List Value) (h : q_H) : Option q_S := match is with
  | [] => some (ls, st, h, True)
  | x :: xs => match q_stp x ls st h with
    | none => none
    | some (ls1, st1, h1, o1) => match q_run xs ls1 st1 h1 with
      | none => none
      | some (ls2, st2, h2, o2) => some (ls2, st2, h2, o1 ∧ o2)
def q_okL (i pc : Nat) (is : List q_I) : Bool := match is with
  | [] => true
  | x :: xs => q_ok i pc x && q_okL i (pc + q_ln x.1) xs
def q_end (pc : Nat) (is : List q_I) : Nat := match is with
  | [] => pc
  | x :: xs => q_end (pc + q_ln x.1) xs
theorem q_blk {sc : Option (Nat × (Nat → Int32))} {i : Nat} {r : Option Value} {hh : q_H} (is : List q_I) : ∀ {pc : Nat} {ls ls2 : List (Nat × Value)} {st st2 : List Value} {h h2 : q_H} {ob : Prop} (_ : q_okL i pc is = true) (_ : q_run is ls st h = some (ls2, st2, h2, ob)) (_ : ob) (_ : q_Ex sc i (q_end pc is) ls2 st2 h2 r hh), q_Ex sc i pc ls st h r hh := by
  induction is with
  | nil =>
    intro pc ls ls2 st st2 h h2 ob hok hs hob E
    cases hs
    exact E
  | cons x xs ih =>
    intro pc ls ls2 st st2 h h2 ob hok hs hob E
    simp only [q_okL, Bool.and_eq_true] at hok
    unfold q_run at hs
    split at hs
    · cases hs
    · next ls1 st1 h1 o1 h9 =>
      split at hs
      · cases hs
      · next ls3 st3 h3 o3 h8 =>
        cases hs
        exact q_stp_ok hok.1 h9 hob.1 (ih hok.2 h8 hob.2 E)
