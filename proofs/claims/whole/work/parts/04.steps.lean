/-! one theorem an instruction, over the picture (written by wip/whole/gen4.py) -/
theorem q_x_iadd {sc : Option (Nat × (Nat → Int32))} {i pc : Nat} {ls : List (Nat × Value)} {st : List Value} {h h2 : q_H} {r : Option Value} {x y : Int32} (hd : decode (q_cB i) pc = .ok (.iadd, 1)) (E : q_Ex sc i (pc + 1) ls (.int (x + y) :: st) h r h2) : q_Ex sc i pc ls (.int y :: .int x :: st) h r h2 := q_go0 (fun p l e R s m args below meth c D b base cA H locs cells slots lsA Q C hR hS hSc hl kk => lv_iadd C.1 C.2.1 hd (kk lsA hl)) E
theorem q_x_isub {sc : Option (Nat × (Nat → Int32))} {i pc : Nat} {ls : List (Nat × Value)} {st : List Value} {h h2 : q_H} {r : Option Value} {x y : Int32} (hd : decode (q_cB i) pc = .ok (.isub, 1)) (E : q_Ex sc i (pc + 1) ls (.int (x - y) :: st) h r h2) : q_Ex sc i pc ls (.int y :: .int x :: st) h r h2 := q_go0 (fun p l e R s m args below meth c D b base cA H locs cells slots lsA Q C hR hS hSc hl kk => lv_isub C.1 C.2.1 hd (kk lsA hl)) E
theorem q_x_imul {sc : Option (Nat × (Nat → Int32))} {i pc : Nat} {ls : List (Nat × Value)} {st : List Value} {h h2 : q_H} {r : Option Value} {x y : Int32} (hd : decode (q_cB i) pc = .ok (.imul, 1)) (E : q_Ex sc i (pc + 1) ls (.int (x * y) :: st) h r h2) : q_Ex sc i pc ls (.int y :: .int x :: st) h r h2 := q_go0 (fun p l e R s m args below meth c D b base cA H locs cells slots lsA Q C hR hS hSc hl kk => lv_imul C.1 C.2.1 hd (kk lsA hl)) E
theorem q_x_iand {sc : Option (Nat × (Nat → Int32))} {i pc : Nat} {ls : List (Nat × Value)} {st : List Value} {h h2 : q_H} {r : Option Value} {x y : Int32} (hd : decode (q_cB i) pc = .ok (.iand, 1)) (E : q_Ex sc i (pc + 1) ls (.int (x &&& y) :: st) h r h2) : q_Ex sc i pc ls (.int y :: .int x :: st) h r h2 := q_go0 (fun p l e R s m args below meth c D b base cA H locs cells slots lsA Q C hR hS hSc hl kk => lv_iand C.1 C.2.1 hd (kk lsA hl)) E
theorem q_x_ixor {sc : Option (Nat × (Nat → Int32))} {i pc : Nat} {ls : List (Nat × Value)} {st : List Value} {h h2 : q_H} {r : Option Value} {x y : Int32} (hd : decode (q_cB i) pc = .ok (.ixor, 1)) (E : q_Ex sc i (pc + 1) ls (.int (x ^^^ y) :: st) h r h2) : q_Ex sc i pc ls (.int y :: .int x :: st) h r h2 := q_go0 (fun p l e R s m args below meth c D b base cA H locs cells slots lsA Q C hR hS hSc hl kk => lv_ixor C.1 C.2.1 hd (kk lsA hl)) E
theorem q_x_ladd {sc : Option (Nat × (Nat → Int32))} {i pc : Nat} {ls : List (Nat × Value)} {st : List Value} {h h2 : q_H} {r : Option Value} {x y : Int64} (hd : decode (q_cB i) pc = .ok (.ladd, 1)) (E : q_Ex sc i (pc + 1) ls (.long (x + y) :: st) h r h2) : q_Ex sc i pc ls (.long y :: .long x :: st) h r h2 := q_go0 (fun p l e R s m args below meth c D b base cA H locs cells slots lsA Q C hR hS hSc hl kk => lv_ladd C.1 C.2.1 hd (kk lsA hl)) E
theorem q_x_lsub {sc : Option (Nat × (Nat → Int32))} {i pc : Nat} {ls : List (Nat × Value)} {st : List Value} {h h2 : q_H} {r : Option Value} {x y : Int64} (hd : decode (q_cB i) pc = .ok (.lsub, 1)) (E : q_Ex sc i (pc + 1) ls (.long (x - y) :: st) h r h2) : q_Ex sc i pc ls (.long y :: .long x :: st) h r h2 := q_go0 (fun p l e R s m args below meth c D b base cA H locs cells slots lsA Q C hR hS hSc hl kk => lv_lsub C.1 C.2.1 hd (kk lsA hl)) E
theorem q_x_lmul {sc : Option (Nat × (Nat → Int32))} {i pc : Nat} {ls : List (Nat × Value)} {st : List Value} {h h2 : q_H} {r : Option Value} {x y : Int64} (hd : decode (q_cB i) pc = .ok (.lmul, 1)) (E : q_Ex sc i (pc + 1) ls (.long (x * y) :: st) h r h2) : q_Ex sc i pc ls (.long y :: .long x :: st) h r h2 := q_go0 (fun p l e R s m args below meth c D b base cA H locs cells slots lsA Q C hR hS hSc hl kk => lv_lmul C.1 C.2.1 hd (kk lsA hl)) E
theorem q_x_lxor {sc : Option (Nat × (Nat → Int32))} {i pc : Nat} {ls : List (Nat × Value)} {st : List Value} {h h2 : q_H} {r : Option Value} {x y : Int64} (hd : decode (q_cB i) pc = .ok (.lxor, 1)) (E : q_Ex sc i (pc + 1) ls (.long (x ^^^ y) :: st) h r h2) : q_Ex sc i pc ls (.long y :: .long x :: st) h r h2 := q_go0 (fun p l e R s m args below meth c D b base cA H locs cells slots lsA Q C hR hS hSc hl kk => lv_lxor C.1 C.2.1 hd (kk lsA hl)) E
theorem q_x_idiv {sc : Option (Nat × (Nat → Int32))} {i pc : Nat} {ls : List (Nat × Value)} {st : List Value} {h h2 : q_H} {r : Option Value} {x y : Int32} (h0 : ¬ y = 0) (hd : decode (q_cB i) pc = .ok (.idiv, 1)) (E : q_Ex sc i (pc + 1) ls (.int (x / y) :: st) h r h2) : q_Ex sc i pc ls (.int y :: .int x :: st) h r h2 := q_go0 (fun p l e R s m args below meth c D b base cA H locs cells slots lsA Q C hR hS hSc hl kk => lv_idiv C.1 C.2.1 hd h0 (kk lsA hl)) E
theorem q_x_irem {sc : Option (Nat × (Nat → Int32))} {i pc : Nat} {ls : List (Nat × Value)} {st : List Value} {h h2 : q_H} {r : Option Value} {x y : Int32} (h0 : ¬ y = 0) (hd : decode (q_cB i) pc = .ok (.irem, 1)) (E : q_Ex sc i (pc + 1) ls (.int (x - x / y * y) :: st) h r h2) : q_Ex sc i pc ls (.int y :: .int x :: st) h r h2 := q_go0 (fun p l e R s m args below meth c D b base cA H locs cells slots lsA Q C hR hS hSc hl kk => lv_irem C.1 C.2.1 hd h0 (kk lsA hl)) E
theorem q_x_ldiv {sc : Option (Nat × (Nat → Int32))} {i pc : Nat} {ls : List (Nat × Value)} {st : List Value} {h h2 : q_H} {r : Option Value} {x y : Int64} (h0 : ¬ y = 0) (hd : decode (q_cB i) pc = .ok (.ldiv, 1)) (E : q_Ex sc i (pc + 1) ls (.long (x / y) :: st) h r h2) : q_Ex sc i pc ls (.long y :: .long x :: st) h r h2 := q_go0 (fun p l e R s m args below meth c D b base cA H locs cells slots lsA Q C hR hS hSc hl kk => lv_ldiv C.1 C.2.1 hd h0 (kk lsA hl)) E
theorem q_x_lrem {sc : Option (Nat × (Nat → Int32))} {i pc : Nat} {ls : List (Nat × Value)} {st : List Value} {h h2 : q_H} {r : Option Value} {x y : Int64} (h0 : ¬ y = 0) (hd : decode (q_cB i) pc = .ok (.lrem, 1)) (E : q_Ex sc i (pc + 1) ls (.long (x - x / y * y) :: st) h r h2) : q_Ex sc i pc ls (.long y :: .long x :: st) h r h2 := q_go0 (fun p l e R s m args below meth c D b base cA H locs cells slots lsA Q C hR hS hSc hl kk => lv_lrem C.1 C.2.1 hd h0 (kk lsA hl)) E
theorem q_x_ineg {sc : Option (Nat × (Nat → Int32))} {i pc : Nat} {ls : List (Nat × Value)} {st : List Value} {h h2 : q_H} {r : Option Value} {x : Int32} (hd : decode (q_cB i) pc = .ok (.ineg, 1)) (E : q_Ex sc i (pc + 1) ls (.int (-x) :: st) h r h2) : q_Ex sc i pc ls (.int x :: st) h r h2 := q_go0 (fun p l e R s m args below meth c D b base cA H locs cells slots lsA Q C hR hS hSc hl kk => lv_ineg C.1 C.2.1 hd (kk lsA hl)) E
theorem q_x_lneg {sc : Option (Nat × (Nat → Int32))} {i pc : Nat} {ls : List (Nat × Value)} {st : List Value} {h h2 : q_H} {r : Option Value} {x : Int64} (hd : decode (q_cB i) pc = .ok (.lneg, 1)) (E : q_Ex sc i (pc + 1) ls (.long (-x) :: st) h r h2) : q_Ex sc i pc ls (.long x :: st) h r h2 := q_go0 (fun p l e R s m args below meth c D b base cA H locs cells slots lsA Q C hR hS hSc hl kk => lv_lneg C.1 C.2.1 hd (kk lsA hl)) E
theorem q_x_i2l {sc : Option (Nat × (Nat → Int32))} {i pc : Nat} {ls : List (Nat × Value)} {st : List Value} {h h2 : q_H} {r : Option Value} {x : Int32} (hd : decode (q_cB i) pc = .ok (.i2l, 1)) (E : q_Ex sc i (pc + 1) ls (.long x.toInt64 :: st) h r h2) : q_Ex sc i pc ls (.int x :: st) h r h2 := q_go0 (fun p l e R s m args below meth c D b base cA H locs cells slots lsA Q C hR hS hSc hl kk => lv_i2l C.1 C.2.1 hd rfl (kk lsA hl)) E
theorem q_x_l2i {sc : Option (Nat × (Nat → Int32))} {i pc : Nat} {ls : List (Nat × Value)} {st : List Value} {h h2 : q_H} {r : Option Value} {x : Int64} (hd : decode (q_cB i) pc = .ok (.l2i, 1)) (E : q_Ex sc i (pc + 1) ls (.int x.toInt32 :: st) h r h2) : q_Ex sc i pc ls (.long x :: st) h r h2 := q_go0 (fun p l e R s m args below meth c D b base cA H locs cells slots lsA Q C hR hS hSc hl kk => lv_l2i C.1 C.2.1 hd rfl (kk lsA hl)) E
theorem q_x_lshr {sc : Option (Nat × (Nat → Int32))} {i pc : Nat} {ls : List (Nat × Value)} {st : List Value} {h h2 : q_H} {r : Option Value} {x : Int64} {y : Int32} (hd : decode (q_cB i) pc = .ok (.lshr, 1)) (E : q_Ex sc i (pc + 1) ls (.long (x >>> (y.toInt64 &&& 63)) :: st) h r h2) : q_Ex sc i pc ls (.int y :: .long x :: st) h r h2 := q_go0 (fun p l e R s m args below meth c D b base cA H locs cells slots lsA Q C hR hS hSc hl kk => lv_lshr C.1 C.2.1 hd rfl (kk lsA hl)) E
theorem q_x_lcmp {sc : Option (Nat × (Nat → Int32))} {i pc : Nat} {ls : List (Nat × Value)} {st : List Value} {h h2 : q_H} {r : Option Value} {x y : Int64} (hd : decode (q_cB i) pc = .ok (.lcmp, 1)) (E : q_Ex sc i (pc + 1) ls (.int (lg_cmp x y) :: st) h r h2) : q_Ex sc i pc ls (.long y :: .long x :: st) h r h2 := q_go0 (fun p l e R s m args below meth c D b base cA H locs cells slots lsA Q C hR hS hSc hl kk => W.lcmp C.1 C.2.1 hd (kk lsA hl)) E
theorem q_x_null {sc : Option (Nat × (Nat → Int32))} {i pc : Nat} {ls : List (Nat × Value)} {st : List Value} {h h2 : q_H} {r : Option Value}  (hd : decode (q_cB i) pc = .ok (.aconst_null, 1)) (E : q_Ex sc i (pc + 1) ls (.null :: st) h r h2) : q_Ex sc i pc ls (st) h r h2 := q_go0 (fun p l e R s m args below meth c D b base cA H locs cells slots lsA Q C hR hS hSc hl kk => lv_null C.1 C.2.1 hd (kk lsA hl)) E
theorem q_x_iconst {sc : Option (Nat × (Nat → Int32))} {i pc : Nat} {ls : List (Nat × Value)} {st : List Value} {h h2 : q_H} {r : Option Value} {n : Int} {v : Int32} (hv : Int32.ofInt n = v) (hd : decode (q_cB i) pc = .ok (.iconst n, 1)) (E : q_Ex sc i (pc + 1) ls (.int v :: st) h r h2) : q_Ex sc i pc ls (st) h r h2 := q_go0 (fun p l e R s m args below meth c D b base cA H locs cells slots lsA Q C hR hS hSc hl kk => lv_iconst C.1 C.2.1 hd hv (kk lsA hl)) E
theorem q_x_bipush {sc : Option (Nat × (Nat → Int32))} {i pc : Nat} {ls : List (Nat × Value)} {st : List Value} {h h2 : q_H} {r : Option Value} {n : Int} {v : Int32} (hv : (Int8.ofInt n).toInt32 = v) (hd : decode (q_cB i) pc = .ok (.bipush n, 2)) (E : q_Ex sc i (pc + 2) ls (.int v :: st) h r h2) : q_Ex sc i pc ls (st) h r h2 := q_go0 (fun p l e R s m args below meth c D b base cA H locs cells slots lsA Q C hR hS hSc hl kk => lv_bipush C.1 C.2.1 hd hv (kk lsA hl)) E
theorem q_x_sipush {sc : Option (Nat × (Nat → Int32))} {i pc : Nat} {ls : List (Nat × Value)} {st : List Value} {h h2 : q_H} {r : Option Value} {n : Int} {v : Int32} (hv : (Int16.ofInt n).toInt32 = v) (hd : decode (q_cB i) pc = .ok (.sipush n, 3)) (E : q_Ex sc i (pc + 3) ls (.int v :: st) h r h2) : q_Ex sc i pc ls (st) h r h2 := q_go0 (fun p l e R s m args below meth c D b base cA H locs cells slots lsA Q C hR hS hSc hl kk => lv_sipush C.1 C.2.1 hd hv (kk lsA hl)) E
theorem q_x_lconst {sc : Option (Nat × (Nat → Int32))} {i pc : Nat} {ls : List (Nat × Value)} {st : List Value} {h h2 : q_H} {r : Option Value} {n : Fin 2} {v : Int64} (hv : Int64.ofNat (n : Nat) = v) (hd : decode (q_cB i) pc = .ok (.lconst n, 1)) (E : q_Ex sc i (pc + 1) ls (.long v :: st) h r h2) : q_Ex sc i pc ls (st) h r h2 := q_go0 (fun p l e R s m args below meth c D b base cA H locs cells slots lsA Q C hR hS hSc hl kk => lv_lconst C.1 C.2.1 hd hv (kk lsA hl)) E
theorem q_x_dup_int {sc : Option (Nat × (Nat → Int32))} {i pc : Nat} {ls : List (Nat × Value)} {st : List Value} {h h2 : q_H} {r : Option Value} {x : Int32} (hd : decode (q_cB i) pc = .ok (.dup, 1)) (E : q_Ex sc i (pc + 1) ls (.int x :: .int x :: st) h r h2) : q_Ex sc i pc ls (.int x :: st) h r h2 := q_go0 (fun p l e R s m args below meth c D b base cA H locs cells slots lsA Q C hR hS hSc hl kk => lv_dup C.1 C.2.1 hd rfl (kk lsA hl)) E
theorem q_x_pop_int {sc : Option (Nat × (Nat → Int32))} {i pc : Nat} {ls : List (Nat × Value)} {st : List Value} {h h2 : q_H} {r : Option Value} {x : Int32} (hd : decode (q_cB i) pc = .ok (.pop, 1)) (E : q_Ex sc i (pc + 1) ls (st) h r h2) : q_Ex sc i pc ls (.int x :: st) h r h2 := q_go0 (fun p l e R s m args below meth c D b base cA H locs cells slots lsA Q C hR hS hSc hl kk => lv_pop C.1 C.2.1 hd rfl (kk lsA hl)) E
theorem q_x_dup_ref {sc : Option (Nat × (Nat → Int32))} {i pc : Nat} {ls : List (Nat × Value)} {st : List Value} {h h2 : q_H} {r : Option Value} {x : Nat} (hd : decode (q_cB i) pc = .ok (.dup, 1)) (E : q_Ex sc i (pc + 1) ls (.ref x :: .ref x :: st) h r h2) : q_Ex sc i pc ls (.ref x :: st) h r h2 := q_go0 (fun p l e R s m args below meth c D b base cA H locs cells slots lsA Q C hR hS hSc hl kk => lv_dup C.1 C.2.1 hd rfl (kk lsA hl)) E
theorem q_x_pop_ref {sc : Option (Nat × (Nat → Int32))} {i pc : Nat} {ls : List (Nat × Value)} {st : List Value} {h h2 : q_H} {r : Option Value} {x : Nat} (hd : decode (q_cB i) pc = .ok (.pop, 1)) (E : q_Ex sc i (pc + 1) ls (st) h r h2) : q_Ex sc i pc ls (.ref x :: st) h r h2 := q_go0 (fun p l e R s m args below meth c D b base cA H locs cells slots lsA Q C hR hS hSc hl kk => lv_pop C.1 C.2.1 hd rfl (kk lsA hl)) E
theorem q_x_dup_nul {sc : Option (Nat × (Nat → Int32))} {i pc : Nat} {ls : List (Nat × Value)} {st : List Value} {h h2 : q_H} {r : Option Value}  (hd : decode (q_cB i) pc = .ok (.dup, 1)) (E : q_Ex sc i (pc + 1) ls (.null :: .null :: st) h r h2) : q_Ex sc i pc ls (.null :: st) h r h2 := q_go0 (fun p l e R s m args below meth c D b base cA H locs cells slots lsA Q C hR hS hSc hl kk => lv_dup C.1 C.2.1 hd rfl (kk lsA hl)) E
theorem q_x_pop_nul {sc : Option (Nat × (Nat → Int32))} {i pc : Nat} {ls : List (Nat × Value)} {st : List Value} {h h2 : q_H} {r : Option Value}  (hd : decode (q_cB i) pc = .ok (.pop, 1)) (E : q_Ex sc i (pc + 1) ls (st) h r h2) : q_Ex sc i pc ls (.null :: st) h r h2 := q_go0 (fun p l e R s m args below meth c D b base cA H locs cells slots lsA Q C hR hS hSc hl kk => lv_pop C.1 C.2.1 hd rfl (kk lsA hl)) E
theorem q_x_dup2_ia {sc : Option (Nat × (Nat → Int32))} {i pc : Nat} {ls : List (Nat × Value)} {st : List Value} {h h2 : q_H} {r : Option Value} {x : Int32} {a : Nat} (hd : decode (q_cB i) pc = .ok (.dup2, 1)) (E : q_Ex sc i (pc + 1) ls (.int x :: .ref a :: .int x :: .ref a :: st) h r h2) : q_Ex sc i pc ls (.int x :: .ref a :: st) h r h2 := q_go0 (fun p l e R s m args below meth c D b base cA H locs cells slots lsA Q C hR hS hSc hl kk => lv_dup2_11 C.1 C.2.1 hd rfl rfl (kk lsA hl)) E
theorem q_x_dup2_l {sc : Option (Nat × (Nat → Int32))} {i pc : Nat} {ls : List (Nat × Value)} {st : List Value} {h h2 : q_H} {r : Option Value} {x : Int64} (hd : decode (q_cB i) pc = .ok (.dup2, 1)) (E : q_Ex sc i (pc + 1) ls (.long x :: .long x :: st) h r h2) : q_Ex sc i pc ls (.long x :: st) h r h2 := q_go0 (fun p l e R s m args below meth c D b base cA H locs cells slots lsA Q C hR hS hSc hl kk => lv_dup2_2 C.1 C.2.1 hd rfl (kk lsA hl)) E
theorem q_x_pop2_l {sc : Option (Nat × (Nat → Int32))} {i pc : Nat} {ls : List (Nat × Value)} {st : List Value} {h h2 : q_H} {r : Option Value} {x : Int64} (hd : decode (q_cB i) pc = .ok (.pop2, 1)) (E : q_Ex sc i (pc + 1) ls (st) h r h2) : q_Ex sc i pc ls (.long x :: st) h r h2 := q_go0 (fun p l e R s m args below meth c D b base cA H locs cells slots lsA Q C hR hS hSc hl kk => lv_pop2_2 C.1 C.2.1 hd rfl (kk lsA hl)) E
theorem q_x_ldc {sc : Option (Nat × (Nat → Int32))} {i pc : Nat} {ls : List (Nat × Value)} {st : List Value} {h h2 : q_H} {r : Option Value} {idx : Nat} {v : Int32} (hw : Cond.constant (q_cn (q_mC i)) idx v ∈ q_tbl) (hd : decode (q_cB i) pc = .ok (.ldc idx, 2)) (E : q_Ex sc i (pc + 2) ls (.int v :: st) h r h2) : q_Ex sc i pc ls st h r h2 := q_go0 (fun p l e R s m args below meth c D b base cA H locs cells slots lsA Q C hR hS hSc hl kk => lv_ldc C.1 C.2.1 C.2.2.2.2.1 (C.2.2.2.2.2.1 _ hw) hd (kk lsA hl)) E
theorem q_x_ldcw {sc : Option (Nat × (Nat → Int32))} {i pc : Nat} {ls : List (Nat × Value)} {st : List Value} {h h2 : q_H} {r : Option Value} {idx : Nat} {v : Int32} (hw : Cond.constant (q_cn (q_mC i)) idx v ∈ q_tbl) (hd : decode (q_cB i) pc = .ok (.ldc_w idx, 3)) (E : q_Ex sc i (pc + 3) ls (.int v :: st) h r h2) : q_Ex sc i pc ls st h r h2 := q_go0 (fun p l e R s m args below meth c D b base cA H locs cells slots lsA Q C hR hS hSc hl kk => lv_ldcw C.1 C.2.1 C.2.2.2.2.1 (C.2.2.2.2.2.1 _ hw) hd (kk lsA hl)) E
theorem q_x_ldc2 {sc : Option (Nat × (Nat → Int32))} {i pc : Nat} {ls : List (Nat × Value)} {st : List Value} {h h2 : q_H} {r : Option Value} {idx : Nat} {v : Int64} (hw : Cond.constantLong (q_cn (q_mC i)) idx v ∈ q_tbl) (hd : decode (q_cB i) pc = .ok (.ldc2_w idx, 3)) (E : q_Ex sc i (pc + 3) ls (.long v :: st) h r h2) : q_Ex sc i pc ls st h r h2 := q_go0 (fun p l e R s m args below meth c D b base cA H locs cells slots lsA Q C hR hS hSc hl kk => lv_ldc2 C.1 C.2.1 C.2.2.2.2.1 (C.2.2.2.2.2.1 _ hw) hd (kk lsA hl)) E
theorem q_x_iload {sc : Option (Nat × (Nat → Int32))} {i pc : Nat} {ls : List (Nat × Value)} {st : List Value} {h h2 : q_H} {r : Option Value} {k : Nat} {x : Int32} (hk : q_lk ls k = some (.int x)) (hd : decode (q_cB i) pc = .ok (.iload k, 2)) (E : q_Ex sc i (pc + 2) ls (.int x :: st) h r h2) : q_Ex sc i pc ls st h r h2 := q_go0 (fun p l e R s m args below meth c D b base cA H locs cells slots lsA Q C hR hS hSc hl kk => lv_iload C.1 C.2.1 hd (q_lk_at hl hk) (kk lsA hl)) E
theorem q_x_iload_n {sc : Option (Nat × (Nat → Int32))} {i pc : Nat} {ls : List (Nat × Value)} {st : List Value} {h h2 : q_H} {r : Option Value} {k : Fin 4} {x : Int32} (hk : q_lk ls k.val = some (.int x)) (hd : decode (q_cB i) pc = .ok (.iload_n k, 1)) (E : q_Ex sc i (pc + 1) ls (.int x :: st) h r h2) : q_Ex sc i pc ls st h r h2 := q_go0 (fun p l e R s m args below meth c D b base cA H locs cells slots lsA Q C hR hS hSc hl kk => lv_iload_n C.1 C.2.1 hd rfl (q_lk_at hl hk) (kk lsA hl)) E
theorem q_x_lload {sc : Option (Nat × (Nat → Int32))} {i pc : Nat} {ls : List (Nat × Value)} {st : List Value} {h h2 : q_H} {r : Option Value} {k : Nat} {x : Int64} (hk : q_lk ls k = some (.long x)) (hd : decode (q_cB i) pc = .ok (.lload k, 2)) (E : q_Ex sc i (pc + 2) ls (.long x :: st) h r h2) : q_Ex sc i pc ls st h r h2 := q_go0 (fun p l e R s m args below meth c D b base cA H locs cells slots lsA Q C hR hS hSc hl kk => lv_lload C.1 C.2.1 hd (q_lk_at hl hk) (kk lsA hl)) E
theorem q_x_lload_n {sc : Option (Nat × (Nat → Int32))} {i pc : Nat} {ls : List (Nat × Value)} {st : List Value} {h h2 : q_H} {r : Option Value} {k : Fin 4} {x : Int64} (hk : q_lk ls k.val = some (.long x)) (hd : decode (q_cB i) pc = .ok (.lload_n k, 1)) (E : q_Ex sc i (pc + 1) ls (.long x :: st) h r h2) : q_Ex sc i pc ls st h r h2 := q_go0 (fun p l e R s m args below meth c D b base cA H locs cells slots lsA Q C hR hS hSc hl kk => lv_lload_n C.1 C.2.1 hd rfl (q_lk_at hl hk) (kk lsA hl)) E
theorem q_x_aload {sc : Option (Nat × (Nat → Int32))} {i pc : Nat} {ls : List (Nat × Value)} {st : List Value} {h h2 : q_H} {r : Option Value} {k : Nat} {x : Nat} (hk : q_lk ls k = some (.ref x)) (hd : decode (q_cB i) pc = .ok (.aload k, 2)) (E : q_Ex sc i (pc + 2) ls (.ref x :: st) h r h2) : q_Ex sc i pc ls st h r h2 := q_go0 (fun p l e R s m args below meth c D b base cA H locs cells slots lsA Q C hR hS hSc hl kk => lv_aload C.1 C.2.1 hd (q_lk_at hl hk) (kk lsA hl)) E
theorem q_x_aload_n {sc : Option (Nat × (Nat → Int32))} {i pc : Nat} {ls : List (Nat × Value)} {st : List Value} {h h2 : q_H} {r : Option Value} {k : Fin 4} {x : Nat} (hk : q_lk ls k.val = some (.ref x)) (hd : decode (q_cB i) pc = .ok (.aload_n k, 1)) (E : q_Ex sc i (pc + 1) ls (.ref x :: st) h r h2) : q_Ex sc i pc ls st h r h2 := q_go0 (fun p l e R s m args below meth c D b base cA H locs cells slots lsA Q C hR hS hSc hl kk => lv_aload_n C.1 C.2.1 hd rfl (q_lk_at hl hk) (kk lsA hl)) E
theorem q_x_aloadN {sc : Option (Nat × (Nat → Int32))} {i pc : Nat} {ls : List (Nat × Value)} {st : List Value} {h h2 : q_H} {r : Option Value} {k : Nat}  (hk : q_lk ls k = some (.null)) (hd : decode (q_cB i) pc = .ok (.aload k, 2)) (E : q_Ex sc i (pc + 2) ls (.null :: st) h r h2) : q_Ex sc i pc ls st h r h2 := q_go0 (fun p l e R s m args below meth c D b base cA H locs cells slots lsA Q C hR hS hSc hl kk => lv_aloadN C.1 C.2.1 hd (q_lk_at hl hk) (kk lsA hl)) E
theorem q_x_aload_nN {sc : Option (Nat × (Nat → Int32))} {i pc : Nat} {ls : List (Nat × Value)} {st : List Value} {h h2 : q_H} {r : Option Value} {k : Fin 4}  (hk : q_lk ls k.val = some (.null)) (hd : decode (q_cB i) pc = .ok (.aload_n k, 1)) (E : q_Ex sc i (pc + 1) ls (.null :: st) h r h2) : q_Ex sc i pc ls st h r h2 := q_go0 (fun p l e R s m args below meth c D b base cA H locs cells slots lsA Q C hR hS hSc hl kk => lv_aload_nN C.1 C.2.1 hd rfl (q_lk_at hl hk) (kk lsA hl)) E
theorem q_x_istore {sc : Option (Nat × (Nat → Int32))} {i pc : Nat} {ls : List (Nat × Value)} {st : List Value} {h h2 : q_H} {r : Option Value} {k : Nat} {x : Int32} (hn : k < q_mL i) (hd : decode (q_cB i) pc = .ok (.istore k, 2)) (E : q_Ex sc i (pc + 2) (q_st1 k (.int x) ls) st h r h2) : q_Ex sc i pc ls (.int x :: st) h r h2 := q_go0 (fun p l e R s m args below meth c D b base cA H locs cells slots lsA Q C hR hS hSc hl kk => lv_istore C.1 C.2.1 hd hl hn (q_st1_map _ k (.int x) ls) kk) E
theorem q_x_istore_n {sc : Option (Nat × (Nat → Int32))} {i pc : Nat} {ls : List (Nat × Value)} {st : List Value} {h h2 : q_H} {r : Option Value} {k : Fin 4} {x : Int32} (hn : k.val < q_mL i) (hd : decode (q_cB i) pc = .ok (.istore_n k, 1)) (E : q_Ex sc i (pc + 1) (q_st1 k.val (.int x) ls) st h r h2) : q_Ex sc i pc ls (.int x :: st) h r h2 := q_go0 (fun p l e R s m args below meth c D b base cA H locs cells slots lsA Q C hR hS hSc hl kk => lv_istore_n C.1 C.2.1 hd rfl hl hn (q_st1_map _ k.val (.int x) ls) kk) E
theorem q_x_lstore {sc : Option (Nat × (Nat → Int32))} {i pc : Nat} {ls : List (Nat × Value)} {st : List Value} {h h2 : q_H} {r : Option Value} {k : Nat} {x : Int64} (hn : k + 1 < q_mL i) (hd : decode (q_cB i) pc = .ok (.lstore k, 2)) (E : q_Ex sc i (pc + 2) (q_st2 k (.long x) ls) st h r h2) : q_Ex sc i pc ls (.long x :: st) h r h2 := q_go0 (fun p l e R s m args below meth c D b base cA H locs cells slots lsA Q C hR hS hSc hl kk => lv_lstore C.1 C.2.1 hd hl hn (q_st2_map _ k (.long x) ls) kk) E
theorem q_x_lstore_n {sc : Option (Nat × (Nat → Int32))} {i pc : Nat} {ls : List (Nat × Value)} {st : List Value} {h h2 : q_H} {r : Option Value} {k : Fin 4} {x : Int64} (hn : k.val + 1 < q_mL i) (hd : decode (q_cB i) pc = .ok (.lstore_n k, 1)) (E : q_Ex sc i (pc + 1) (q_st2 k.val (.long x) ls) st h r h2) : q_Ex sc i pc ls (.long x :: st) h r h2 := q_go0 (fun p l e R s m args below meth c D b base cA H locs cells slots lsA Q C hR hS hSc hl kk => lv_lstore_n C.1 C.2.1 hd rfl hl hn (q_st2_map _ k.val (.long x) ls) kk) E
theorem q_x_astore {sc : Option (Nat × (Nat → Int32))} {i pc : Nat} {ls : List (Nat × Value)} {st : List Value} {h h2 : q_H} {r : Option Value} {k : Nat} {x : Nat} (hn : k < q_mL i) (hd : decode (q_cB i) pc = .ok (.astore k, 2)) (E : q_Ex sc i (pc + 2) (q_st1 k (.ref x) ls) st h r h2) : q_Ex sc i pc ls (.ref x :: st) h r h2 := q_go0 (fun p l e R s m args below meth c D b base cA H locs cells slots lsA Q C hR hS hSc hl kk => lv_astore C.1 C.2.1 hd hl hn (q_st1_map _ k (.ref x) ls) kk) E
theorem q_x_astore_n {sc : Option (Nat × (Nat → Int32))} {i pc : Nat} {ls : List (Nat × Value)} {st : List Value} {h h2 : q_H} {r : Option Value} {k : Fin 4} {x : Nat} (hn : k.val < q_mL i) (hd : decode (q_cB i) pc = .ok (.astore_n k, 1)) (E : q_Ex sc i (pc + 1) (q_st1 k.val (.ref x) ls) st h r h2) : q_Ex sc i pc ls (.ref x :: st) h r h2 := q_go0 (fun p l e R s m args below meth c D b base cA H locs cells slots lsA Q C hR hS hSc hl kk => lv_astore_n C.1 C.2.1 hd rfl hl hn (q_st1_map _ k.val (.ref x) ls) kk) E
theorem q_x_astoreN {sc : Option (Nat × (Nat → Int32))} {i pc : Nat} {ls : List (Nat × Value)} {st : List Value} {h h2 : q_H} {r : Option Value} {k : Nat}  (hn : k < q_mL i) (hd : decode (q_cB i) pc = .ok (.astore k, 2)) (E : q_Ex sc i (pc + 2) (q_st1 k (.null) ls) st h r h2) : q_Ex sc i pc ls (.null :: st) h r h2 := q_go0 (fun p l e R s m args below meth c D b base cA H locs cells slots lsA Q C hR hS hSc hl kk => lv_astoreN C.1 C.2.1 hd hl hn (q_st1_map _ k (.null) ls) kk) E
theorem q_x_astore_nN {sc : Option (Nat × (Nat → Int32))} {i pc : Nat} {ls : List (Nat × Value)} {st : List Value} {h h2 : q_H} {r : Option Value} {k : Fin 4}  (hn : k.val < q_mL i) (hd : decode (q_cB i) pc = .ok (.astore_n k, 1)) (E : q_Ex sc i (pc + 1) (q_st1 k.val (.null) ls) st h r h2) : q_Ex sc i pc ls (.null :: st) h r h2 := q_go0 (fun p l e R s m args below meth c D b base cA H locs cells slots lsA Q C hR hS hSc hl kk => lv_astore_nN C.1 C.2.1 hd rfl hl hn (q_st1_map _ k.val (.null) ls) kk) E
theorem q_lk_pos {ad : Nat → Nat} {ls : List (Nat × Value)} {x : Nat} {v : Value} (h : q_lk ls x = some v) : ∃ n : Nat, (ls.map (q_tl ad))[n]? = some (x, q_tv ad v) := by
  unfold q_lk at h
  cases hf : ls.find? (fun q => q.1 == x) with
  | none => rw [hf] at h; cases h
  | some q =>
    rw [hf] at h
    cases h
    have h1 := List.find?_some hf
    simp only [beq_iff_eq] at h1
    have h2 : q_tl ad q ∈ ls.map (q_tl ad) := List.mem_map_of_mem (List.mem_of_find?_eq_some hf)
    obtain ⟨n, hn⟩ := List.getElem?_of_mem h2
    exact ⟨n, by rw [hn, ← h1]; rfl⟩
theorem q_x_iinc {sc : Option (Nat × (Nat → Int32))} {i pc : Nat} {ls : List (Nat × Value)} {st : List Value} {h h2 : q_H} {r : Option Value} {k : Nat} {n : Int} {x y : Int32} (hk : q_lk ls k = some (.int x)) (hv : Int32.ofInt n = y) (hn : k < q_mL i) (hd : decode (q_cB i) pc = .ok (.iinc k n, 3)) (E : q_Ex sc i (pc + 3) (q_st1 k (.int (x + y)) ls) st h r h2) : q_Ex sc i pc ls st h r h2 := by
  refine q_go0 (fun p l e R s m args below meth c D b base cA H locs cells slots lsA Q C hR hS hSc hl kk => ?_) E
  obtain ⟨j, hj⟩ := q_lk_pos (ad := q_ad b base) hk
  exact lv_iinc C.1 C.2.1 hd hl hj (by rw [hv]) hn (q_st1_map _ k (.int (x + y)) ls) kk
theorem q_en_obj {ad cA : Nat → Nat} {h : q_H} {n ci : Nat} (hk : q_kd h n = some (.inl ci)) : q_en ad cA h n = (ad n, .inr (ci, (List.range (q_nf ci)).map (q_fv ad h ci n))) := by simp [q_en, hk]
theorem q_en_i {ad cA : Nat → Nat} {h : q_H} {n N : Nat} (hk : q_kd h n = some (.inr (0, N))) : q_en ad cA h n = (ad n, .inl (cA n, N, .inl (h.2.1 n))) := by simp [q_en, hk]
theorem q_en_l {ad cA : Nat → Nat} {h : q_H} {n N : Nat} (hk : q_kd h n = some (.inr (1, N))) : q_en ad cA h n = (ad n, .inl (cA n, N, .inr (.inl (h.2.2.1 n)))) := by simp [q_en, hk]
theorem q_en_q {ad cA : Nat → Nat} {h : q_H} {n N : Nat} (hk : q_kd h n = some (.inr (2, N))) : q_en ad cA h n = (ad n, .inl (cA n, N, .inr (.inr (.inr (.inr (fun j => (h.2.2.2 n j).map ad)))))) := by simp [q_en, hk]
theorem q_en_ne {ad cA : Nat → Nat} {h h2 : q_H} {m : Nat} (e0 : h2.1 = h.1) (e1 : h2.2.1 m = h.2.1 m) (e2 : h2.2.2.1 m = h.2.2.1 m) (e3 : h2.2.2.2 m = h.2.2.2 m) : q_en ad cA h2 m = q_en ad cA h m := by
  have ek : q_kd h2 m = q_kd h m := by cases m <;> simp [q_kd, e0]
  have ef : ∀ ci, q_fv ad h2 ci m = q_fv ad h ci m := fun ci => funext fun k => by simp only [q_fv, e1, e2, e3]
  simp only [q_en, ek, e1, e2, e3, ef]
theorem q_u2_ne {α : Type} {f : Nat → Nat → α} {o k m : Nat} {v : α} (h : m ≠ o) : q_u2 f o k v m = f m := by
  funext c
  simp [q_u2, h]
theorem q_u2_at {α : Type} {f : Nat → Nat → α} {o k : Nat} {v : α} (j : Nat) : q_u2 f o k v o j = if j = k then v else f o j := by simp [q_u2]
theorem q_kd_pos {h : q_H} {n : Nat} {x : q_Kd} (hk : q_kd h n = some x) : n ≠ 0 := fun e => by subst e; cases hk
theorem q_x_get {sc : Option (Nat × (Nat → Int32))} {i pc : Nat} {ls : List (Nat × Value)} {st : List Value} {h h2 : q_H} {r : Option Value} {n idx ci k : Nat} (hf : q_fd (q_mC i) idx ci k = true) (hk : q_kd h n = some (.inl ci)) (hd : decode (q_cB i) pc = .ok (.getfield idx, 3)) (E : q_Ex sc i (pc + 3) ls (q_av h ci n k :: st) h r h2) : q_Ex sc i pc ls (.ref n :: st) h r h2 := by
  obtain ⟨hlk, hci, hkn⟩ := q_fd_at hf
  obtain ⟨Cn, T, N, f1, f2, f3, f4, f5, f6, f7⟩ := q_cf ci hci
  refine q_go0 (fun p l e R s m args below meth c D b base cA H locs cells slots lsA Q C hR hS hSc hl kk => ?_) E
  have he := q_ws_get (ad := q_ad b base) (cA := cA) hk
  rw [q_en_obj hk] at he
  subst f4
  subst f2
  refine va_get (D := D) (cl := q_cl) (tys := []) (v := q_fv (q_ad b base) h ci n k) C.1 C.2.1 C.2.2.2.2.2.1 f5 C.2.2.2.2.1 hR.2.2.1 hR.1 (n - 1) he f1 k hkn (C.2.2.2.2.2.1 _ hlk) (fun _ h9 => h9) ?_ hd ?_
  · simp [hkn]
  · have h9 := kk lsA hl
    rw [List.map_cons, q_tv_av] at h9
    exact h9
theorem q_fts_at {ci k : Nat} (hci : ci < 10) (hk : k < q_nf ci) : q_fts ci k = true := List.all_eq_true.mp (List.all_eq_true.mp q_fts_ok ci (List.mem_range.mpr hci)) k (List.mem_range.mpr hk)
theorem q_fit1 {ci k : Nat} (hci : ci < 10) (hk : k < q_nf ci) (h1 : q_fk ci k = 1) (x : Int64) : narrow (q_ty ci k) (.long x) = .long x ∧ fits (q_ty ci k) (.long x) = true := by
  have h := q_fts_at hci hk
  unfold q_fts at h
  rw [h1] at h
  cases ht : q_ty ci k <;> rw [ht] at h <;> first | exact ⟨rfl, rfl⟩ | cases h
theorem q_fit2 {ci k : Nat} (hci : ci < 10) (hk : k < q_nf ci) (h1 : q_fk ci k = 2) (x : Nat) : narrow (q_ty ci k) (.ref x) = .ref x ∧ fits (q_ty ci k) (.ref x) = true := by
  have h := q_fts_at hci hk
  unfold q_fts at h
  rw [h1] at h
  cases ht : q_ty ci k <;> rw [ht] at h <;> first | exact ⟨rfl, rfl⟩ | cases h
theorem q_ws_putI {ad cA : Nat → Nat} {h : q_H} {n ci k : Nat} {x : Int32} (hk : q_kd h n = some (.inl ci)) (hf : q_fk ci k = 0) (hkn : k < q_nf ci) : (q_ws ad cA h).set (n - 1) (ad n, .inr (ci, ((List.range (q_nf ci)).map (q_fv ad h ci n)).set k (.int x))) = q_ws ad cA (h.1, q_u2 h.2.1 n k x, h.2.2.1, h.2.2.2) := by
  rw [← q_ws_set (h := h) (h2 := (h.1, q_u2 h.2.1 n k x, h.2.2.1, h.2.2.2)) (n := n) rfl (fun m hm => q_en_ne rfl (q_u2_ne hm) rfl rfl) (q_kd_pos hk)]
  congr 1
  rw [q_en_obj (h := (h.1, q_u2 h.2.1 n k x, h.2.2.1, h.2.2.2)) (ci := ci) (n := n) (by cases n with | zero => cases hk | succ n => exact hk)]
  congr 2
  apply congrArg
  apply List.ext_getElem?
  intro j
  rw [List.getElem?_set]
  by_cases e : k = j
  · subst e
    simp [hkn, q_fv, hf, q_u2, va_rf]
  · rw [if_neg e]
    simp only [List.getElem?_map]
    by_cases hj : j < q_nf ci
    · rw [List.getElem?_range hj]
      simp [q_fv, q_u2, Ne.symm e]
    · simp [hj]
theorem q_x_putI {sc : Option (Nat × (Nat → Int32))} {i pc : Nat} {ls : List (Nat × Value)} {st : List Value} {h h2 : q_H} {r : Option Value} {n idx ci k : Nat} {x : Int32} (hf : q_fd (q_mC i) idx ci k = true) (hfk : q_fk ci k = 0) (hfin : (q_tt ci k).2.2.2 = false) (hk : q_kd h n = some (.inl ci)) (hnw : narrow (q_ty ci k) (.int x) = .int x ∧ fits (q_ty ci k) (.int x) = true) (hd : decode (q_cB i) pc = .ok (.putfield idx, 3)) (E : q_Ex sc i (pc + 3) ls st (h.1, q_u2 h.2.1 n k x, h.2.2.1, h.2.2.2) r h2) : q_Ex sc i pc ls (.int x :: .ref n :: st) h r h2 := by
  obtain ⟨hlk, hci, hkn⟩ := q_fd_at hf
  obtain ⟨Cn, T, N, f1, f2, f3, f4, f5, f6, f7⟩ := q_cf ci hci
  refine q_go1 (h1 := (h.1, q_u2 h.2.1 n k x, h.2.2.1, h.2.2.2)) rfl (fun p l e R s m args below meth c D b base cA H locs cells slots lsA Q C hR hS hl kk => ?_) E
  have he := q_ws_get (ad := q_ad b base) (cA := cA) hk
  rw [q_en_obj hk] at he
  subst f4
  subst f2
  refine va_put (D := D) (cl := q_cl) (tys := []) (ty := q_ty ci k) (v := .int x) C.1 C.2.1 C.2.2.2.2.2.1 f5 (q_ty ci) f6 f7 C.2.2.2.2.1 hR.2.2.1 hR.1 (q_D b base cA h) hS (n - 1) he f1 k hkn (C.2.2.2.2.2.1 _ hlk) (fun _ h9 => h9) hfin (f6 k hkn) hnw.1 hnw.2 (by simp [hkn]) hd (fun H1 locs1 hP1 hD1 hS1 => ?_)
  rw [q_ws_putI hk hfk hkn] at hP1
  exact kk H1 locs1 hP1 hS1
theorem q_x_putIF {sc : Option (Nat × (Nat → Int32))} {i pc : Nat} {ls : List (Nat × Value)} {st : List Value} {h h2 : q_H} {r : Option Value} {n idx ci k : Nat} {x : Int32} (hf : q_fd (q_mC i) idx ci k = true) (hfk : q_fk ci k = 0) (hfin : (q_tt ci k).2.2.2 = true) (hin : (q_mY i).name = "<init>") (hdc : (q_tt ci k).1 = q_cn (q_mC i)) (hk : q_kd h n = some (.inl ci)) (hnw : narrow (q_ty ci k) (.int x) = .int x ∧ fits (q_ty ci k) (.int x) = true) (hd : decode (q_cB i) pc = .ok (.putfield idx, 3)) (E : q_Ex sc i (pc + 3) ls st (h.1, q_u2 h.2.1 n k x, h.2.2.1, h.2.2.2) r h2) : q_Ex sc i pc ls (.int x :: .ref n :: st) h r h2 := by
  obtain ⟨hlk, hci, hkn⟩ := q_fd_at hf
  obtain ⟨Cn, T, N, f1, f2, f3, f4, f5, f6, f7⟩ := q_cf ci hci
  refine q_go1 (h1 := (h.1, q_u2 h.2.1 n k x, h.2.2.1, h.2.2.2)) rfl (fun p l e R s m args below meth c D b base cA H locs cells slots lsA Q C hR hS hl kk => ?_) E
  have he := q_ws_get (ad := q_ad b base) (cA := cA) hk
  rw [q_en_obj hk] at he
  subst f4
  subst f2
  refine va_putF (D := D) (cl := q_cl) (tys := []) (ty := q_ty ci k) (v := .int x) C.1 C.2.1 C.2.2.2.2.2.1 f5 (q_ty ci) f6 f7 C.2.2.2.2.1 hR.2.2.1 hR.1 (q_D b base cA h) hS (n - 1) he f1 k hkn (C.2.2.2.2.2.1 _ hlk) (fun _ h9 => h9) hfin (C.2.2.2.2.2.2.2.1 hin) hdc (f6 k hkn) hnw.1 hnw.2 (by simp [hkn]) hd (fun H1 locs1 hP1 hD1 hS1 => ?_)
  rw [q_ws_putI hk hfk hkn] at hP1
  exact kk H1 locs1 hP1 hS1
theorem q_ws_putL {ad cA : Nat → Nat} {h : q_H} {n ci k : Nat} {x : Int64} (hk : q_kd h n = some (.inl ci)) (hf : q_fk ci k = 1) (hkn : k < q_nf ci) : (q_ws ad cA h).set (n - 1) (ad n, .inr (ci, ((List.range (q_nf ci)).map (q_fv ad h ci n)).set k (.long x))) = q_ws ad cA (h.1, h.2.1, q_u2 h.2.2.1 n k x, h.2.2.2) := by
  rw [← q_ws_set (h := h) (h2 := (h.1, h.2.1, q_u2 h.2.2.1 n k x, h.2.2.2)) (n := n) rfl (fun m hm => q_en_ne rfl rfl (q_u2_ne hm) rfl) (q_kd_pos hk)]
  congr 1
  rw [q_en_obj (h := (h.1, h.2.1, q_u2 h.2.2.1 n k x, h.2.2.2)) (ci := ci) (n := n) (by cases n with | zero => cases hk | succ n => exact hk)]
  congr 2
  apply congrArg
  apply List.ext_getElem?
  intro j
  rw [List.getElem?_set]
  by_cases e : k = j
  · subst e
    simp [hkn, q_fv, hf, q_u2, va_rf]
  · rw [if_neg e]
    simp only [List.getElem?_map]
    by_cases hj : j < q_nf ci
    · rw [List.getElem?_range hj]
      simp [q_fv, q_u2, Ne.symm e]
    · simp [hj]
theorem q_x_putL {sc : Option (Nat × (Nat → Int32))} {i pc : Nat} {ls : List (Nat × Value)} {st : List Value} {h h2 : q_H} {r : Option Value} {n idx ci k : Nat} {x : Int64} (hf : q_fd (q_mC i) idx ci k = true) (hfk : q_fk ci k = 1) (hfin : (q_tt ci k).2.2.2 = false) (hk : q_kd h n = some (.inl ci)) (hd : decode (q_cB i) pc = .ok (.putfield idx, 3)) (E : q_Ex sc i (pc + 3) ls st (h.1, h.2.1, q_u2 h.2.2.1 n k x, h.2.2.2) r h2) : q_Ex sc i pc ls (.long x :: .ref n :: st) h r h2 := by
  obtain ⟨hlk, hci, hkn⟩ := q_fd_at hf
  obtain ⟨Cn, T, N, f1, f2, f3, f4, f5, f6, f7⟩ := q_cf ci hci
  refine q_go1 (h1 := (h.1, h.2.1, q_u2 h.2.2.1 n k x, h.2.2.2)) rfl (fun p l e R s m args below meth c D b base cA H locs cells slots lsA Q C hR hS hl kk => ?_) E
  have he := q_ws_get (ad := q_ad b base) (cA := cA) hk
  rw [q_en_obj hk] at he
  subst f4
  subst f2
  refine va_put (D := D) (cl := q_cl) (tys := []) (ty := q_ty ci k) (v := .long x) C.1 C.2.1 C.2.2.2.2.2.1 f5 (q_ty ci) f6 f7 C.2.2.2.2.1 hR.2.2.1 hR.1 (q_D b base cA h) hS (n - 1) he f1 k hkn (C.2.2.2.2.2.1 _ hlk) (fun _ h9 => h9) hfin (f6 k hkn) (q_fit1 hci hkn hfk x).1 (q_fit1 hci hkn hfk x).2 (by simp [hkn]) hd (fun H1 locs1 hP1 hD1 hS1 => ?_)
  rw [q_ws_putL hk hfk hkn] at hP1
  exact kk H1 locs1 hP1 hS1
theorem q_x_putLF {sc : Option (Nat × (Nat → Int32))} {i pc : Nat} {ls : List (Nat × Value)} {st : List Value} {h h2 : q_H} {r : Option Value} {n idx ci k : Nat} {x : Int64} (hf : q_fd (q_mC i) idx ci k = true) (hfk : q_fk ci k = 1) (hfin : (q_tt ci k).2.2.2 = true) (hin : (q_mY i).name = "<init>") (hdc : (q_tt ci k).1 = q_cn (q_mC i)) (hk : q_kd h n = some (.inl ci)) (hd : decode (q_cB i) pc = .ok (.putfield idx, 3)) (E : q_Ex sc i (pc + 3) ls st (h.1, h.2.1, q_u2 h.2.2.1 n k x, h.2.2.2) r h2) : q_Ex sc i pc ls (.long x :: .ref n :: st) h r h2 := by
  obtain ⟨hlk, hci, hkn⟩ := q_fd_at hf
  obtain ⟨Cn, T, N, f1, f2, f3, f4, f5, f6, f7⟩ := q_cf ci hci
  refine q_go1 (h1 := (h.1, h.2.1, q_u2 h.2.2.1 n k x, h.2.2.2)) rfl (fun p l e R s m args below meth c D b base cA H locs cells slots lsA Q C hR hS hl kk => ?_) E
  have he := q_ws_get (ad := q_ad b base) (cA := cA) hk
  rw [q_en_obj hk] at he
  subst f4
  subst f2
  refine va_putF (D := D) (cl := q_cl) (tys := []) (ty := q_ty ci k) (v := .long x) C.1 C.2.1 C.2.2.2.2.2.1 f5 (q_ty ci) f6 f7 C.2.2.2.2.1 hR.2.2.1 hR.1 (q_D b base cA h) hS (n - 1) he f1 k hkn (C.2.2.2.2.2.1 _ hlk) (fun _ h9 => h9) hfin (C.2.2.2.2.2.2.2.1 hin) hdc (f6 k hkn) (q_fit1 hci hkn hfk x).1 (q_fit1 hci hkn hfk x).2 (by simp [hkn]) hd (fun H1 locs1 hP1 hD1 hS1 => ?_)
  rw [q_ws_putL hk hfk hkn] at hP1
  exact kk H1 locs1 hP1 hS1
theorem q_ws_putR {ad cA : Nat → Nat} {h : q_H} {n ci k : Nat} {x : Nat} (hk : q_kd h n = some (.inl ci)) (hf : q_fk ci k = 2) (hkn : k < q_nf ci) : (q_ws ad cA h).set (n - 1) (ad n, .inr (ci, ((List.range (q_nf ci)).map (q_fv ad h ci n)).set k (.ref (ad x)))) = q_ws ad cA (h.1, h.2.1, h.2.2.1, q_u2 h.2.2.2 n k (some x)) := by
  rw [← q_ws_set (h := h) (h2 := (h.1, h.2.1, h.2.2.1, q_u2 h.2.2.2 n k (some x))) (n := n) rfl (fun m hm => q_en_ne rfl rfl rfl (q_u2_ne hm)) (q_kd_pos hk)]
  congr 1
  rw [q_en_obj (h := (h.1, h.2.1, h.2.2.1, q_u2 h.2.2.2 n k (some x))) (ci := ci) (n := n) (by cases n with | zero => cases hk | succ n => exact hk)]
  congr 2
  apply congrArg
  apply List.ext_getElem?
  intro j
  rw [List.getElem?_set]
  by_cases e : k = j
  · subst e
    simp [hkn, q_fv, hf, q_u2, va_rf]
  · rw [if_neg e]
    simp only [List.getElem?_map]
    by_cases hj : j < q_nf ci
    · rw [List.getElem?_range hj]
      simp [q_fv, q_u2, Ne.symm e]
    · simp [hj]
theorem q_x_putR {sc : Option (Nat × (Nat → Int32))} {i pc : Nat} {ls : List (Nat × Value)} {st : List Value} {h h2 : q_H} {r : Option Value} {n idx ci k : Nat} {x : Nat} (hf : q_fd (q_mC i) idx ci k = true) (hfk : q_fk ci k = 2) (hfin : (q_tt ci k).2.2.2 = false) (hk : q_kd h n = some (.inl ci)) (hd : decode (q_cB i) pc = .ok (.putfield idx, 3)) (E : q_Ex sc i (pc + 3) ls st (h.1, h.2.1, h.2.2.1, q_u2 h.2.2.2 n k (some x)) r h2) : q_Ex sc i pc ls (.ref x :: .ref n :: st) h r h2 := by
  obtain ⟨hlk, hci, hkn⟩ := q_fd_at hf
  obtain ⟨Cn, T, N, f1, f2, f3, f4, f5, f6, f7⟩ := q_cf ci hci
  refine q_go1 (h1 := (h.1, h.2.1, h.2.2.1, q_u2 h.2.2.2 n k (some x))) rfl (fun p l e R s m args below meth c D b base cA H locs cells slots lsA Q C hR hS hl kk => ?_) E
  have he := q_ws_get (ad := q_ad b base) (cA := cA) hk
  rw [q_en_obj hk] at he
  subst f4
  subst f2
  refine va_put (D := D) (cl := q_cl) (tys := []) (ty := q_ty ci k) (v := .ref (q_ad b base x)) C.1 C.2.1 C.2.2.2.2.2.1 f5 (q_ty ci) f6 f7 C.2.2.2.2.1 hR.2.2.1 hR.1 (q_D b base cA h) hS (n - 1) he f1 k hkn (C.2.2.2.2.2.1 _ hlk) (fun _ h9 => h9) hfin (f6 k hkn) (q_fit2 hci hkn hfk _).1 (q_fit2 hci hkn hfk _).2 (by simp [hkn]) hd (fun H1 locs1 hP1 hD1 hS1 => ?_)
  rw [q_ws_putR hk hfk hkn] at hP1
  exact kk H1 locs1 hP1 hS1
theorem q_x_putRF {sc : Option (Nat × (Nat → Int32))} {i pc : Nat} {ls : List (Nat × Value)} {st : List Value} {h h2 : q_H} {r : Option Value} {n idx ci k : Nat} {x : Nat} (hf : q_fd (q_mC i) idx ci k = true) (hfk : q_fk ci k = 2) (hfin : (q_tt ci k).2.2.2 = true) (hin : (q_mY i).name = "<init>") (hdc : (q_tt ci k).1 = q_cn (q_mC i)) (hk : q_kd h n = some (.inl ci)) (hd : decode (q_cB i) pc = .ok (.putfield idx, 3)) (E : q_Ex sc i (pc + 3) ls st (h.1, h.2.1, h.2.2.1, q_u2 h.2.2.2 n k (some x)) r h2) : q_Ex sc i pc ls (.ref x :: .ref n :: st) h r h2 := by
  obtain ⟨hlk, hci, hkn⟩ := q_fd_at hf
  obtain ⟨Cn, T, N, f1, f2, f3, f4, f5, f6, f7⟩ := q_cf ci hci
  refine q_go1 (h1 := (h.1, h.2.1, h.2.2.1, q_u2 h.2.2.2 n k (some x))) rfl (fun p l e R s m args below meth c D b base cA H locs cells slots lsA Q C hR hS hl kk => ?_) E
  have he := q_ws_get (ad := q_ad b base) (cA := cA) hk
  rw [q_en_obj hk] at he
  subst f4
  subst f2
  refine va_putF (D := D) (cl := q_cl) (tys := []) (ty := q_ty ci k) (v := .ref (q_ad b base x)) C.1 C.2.1 C.2.2.2.2.2.1 f5 (q_ty ci) f6 f7 C.2.2.2.2.1 hR.2.2.1 hR.1 (q_D b base cA h) hS (n - 1) he f1 k hkn (C.2.2.2.2.2.1 _ hlk) (fun _ h9 => h9) hfin (C.2.2.2.2.2.2.2.1 hin) hdc (f6 k hkn) (q_fit2 hci hkn hfk _).1 (q_fit2 hci hkn hfk _).2 (by simp [hkn]) hd (fun H1 locs1 hP1 hD1 hS1 => ?_)
  rw [q_ws_putR hk hfk hkn] at hP1
  exact kk H1 locs1 hP1 hS1
theorem q_x_iald {sc : Option (Nat × (Nat → Int32))} {i pc : Nat} {ls : List (Nat × Value)} {st : List Value} {h h2 : q_H} {r : Option Value} {n N : Nat} {a : Int32} (hk : q_kd h n = some (.inr (0, N))) (hin : vp_in a N) (hd : decode (q_cB i) pc = .ok (.iaload, 1)) (E : q_Ex sc i (pc + 1) ls (.int (h.2.1 n a.toNatClampNeg) :: st) h r h2) : q_Ex sc i pc ls (.int a :: .ref n :: st) h r h2 := by
  refine q_go0 (fun p l e R s m args below meth c D b base cA H locs cells slots lsA Q C hR hS hSc hl kk => ?_) E
  have he := q_ws_get (ad := q_ad b base) (cA := cA) hk
  rw [q_en_i hk] at he
  exact va_iald (D := D) (cl := q_cl) (tys := [(cA n, .int)]) C.1 C.2.1 (hR.2.2.2.1 n 0 N hk) hR.1 (n - 1) 0 he rfl hin hd (kk lsA hl)
theorem q_x_lald {sc : Option (Nat × (Nat → Int32))} {i pc : Nat} {ls : List (Nat × Value)} {st : List Value} {h h2 : q_H} {r : Option Value} {n N : Nat} {a : Int32} (hk : q_kd h n = some (.inr (1, N))) (hin : vp_in a N) (hd : decode (q_cB i) pc = .ok (.laload, 1)) (E : q_Ex sc i (pc + 1) ls (.long (h.2.2.1 n a.toNatClampNeg) :: st) h r h2) : q_Ex sc i pc ls (.int a :: .ref n :: st) h r h2 := by
  refine q_go0 (fun p l e R s m args below meth c D b base cA H locs cells slots lsA Q C hR hS hSc hl kk => ?_) E
  have he := q_ws_get (ad := q_ad b base) (cA := cA) hk
  rw [q_en_l hk] at he
  exact va_lald (D := D) (cl := q_cl) (tys := [(cA n, .long)]) C.1 C.2.1 (hR.2.2.2.1 n 1 N hk) hR.1 (n - 1) 0 he rfl hin hd (kk lsA hl)
theorem q_x_aald {sc : Option (Nat × (Nat → Int32))} {i pc : Nat} {ls : List (Nat × Value)} {st : List Value} {h h2 : q_H} {r : Option Value} {n N : Nat} {a : Int32} (hk : q_kd h n = some (.inr (2, N))) (hin : vp_in a N) (hd : decode (q_cB i) pc = .ok (.aaload, 1)) (E : q_Ex sc i (pc + 1) ls (va_rf (h.2.2.2 n a.toNatClampNeg) :: st) h r h2) : q_Ex sc i pc ls (.int a :: .ref n :: st) h r h2 := by
  refine q_go0 (fun p l e R s m args below meth c D b base cA H locs cells slots lsA Q C hR hS hSc hl kk => ?_) E
  have he := q_ws_get (ad := q_ad b base) (cA := cA) hk
  rw [q_en_q hk] at he
  refine va_aldq (D := D) (cl := q_cl) (tys := [(cA n, .object "RootForms$Form")]) C.1 C.2.1 (hR.2.2.2.1 n 2 N hk) hR.1 (n - 1) 0 he rfl hin hd ?_
  have h9 := kk lsA hl
  rw [List.map_cons, q_tv_rf] at h9
  exact h9
theorem q_x_iast {sc : Option (Nat × (Nat → Int32))} {i pc : Nat} {ls : List (Nat × Value)} {st : List Value} {h h2 : q_H} {r : Option Value} {n N : Nat} {a : Int32} {x : Int32} (hk : q_kd h n = some (.inr (0, N))) (hin : vp_in a N) (hd : decode (q_cB i) pc = .ok (.iastore, 1)) (E : q_Ex sc i (pc + 1) ls st (h.1, q_u2 h.2.1 n a.toNatClampNeg x, h.2.2.1, h.2.2.2) r h2) : q_Ex sc i pc ls (.int x :: .int a :: .ref n :: st) h r h2 := by
  refine q_go1 (h1 := (h.1, q_u2 h.2.1 n a.toNatClampNeg x, h.2.2.1, h.2.2.2)) rfl (fun p l e R s m args below meth c D b base cA H locs cells slots lsA Q C hR hS hl kk => ?_) E
  have he := q_ws_get (ad := q_ad b base) (cA := cA) hk
  rw [q_en_i hk] at he
  skip
  refine va_iast (D := D) (cl := q_cl) (tys := [(cA n, .int)]) C.1 C.2.1 (hR.2.2.2.1 n 0 N hk) hR.1 (q_D b base cA h) hS (n - 1) 0 he rfl hin hd (fun H1 locs1 hP1 hD1 hS1 => ?_)
  refine kk H1 locs1 ?_ hS1
  have hq : (q_ad b base n, Sum.inl (cA n, N, .inl (upd (h.2.1 n) a.toNatClampNeg x))) = q_en (q_ad b base) cA (h.1, q_u2 h.2.1 n a.toNatClampNeg x, h.2.2.1, h.2.2.2) n := by
    rw [q_en_i (N := N) (by cases n with | zero => cases hk | succ n => exact hk)]
    congr 4
    apply congrArg; funext j; simp [q_u2, upd]
  rw [hq, q_ws_set (h := h) (h2 := (h.1, q_u2 h.2.1 n a.toNatClampNeg x, h.2.2.1, h.2.2.2)) rfl (fun m hm => q_en_ne rfl (q_u2_ne hm) rfl rfl) (q_kd_pos hk)] at hP1
  exact hP1
theorem q_x_last {sc : Option (Nat × (Nat → Int32))} {i pc : Nat} {ls : List (Nat × Value)} {st : List Value} {h h2 : q_H} {r : Option Value} {n N : Nat} {a : Int32} {x : Int64} (hk : q_kd h n = some (.inr (1, N))) (hin : vp_in a N) (hd : decode (q_cB i) pc = .ok (.lastore, 1)) (E : q_Ex sc i (pc + 1) ls st (h.1, h.2.1, q_u2 h.2.2.1 n a.toNatClampNeg x, h.2.2.2) r h2) : q_Ex sc i pc ls (.long x :: .int a :: .ref n :: st) h r h2 := by
  refine q_go1 (h1 := (h.1, h.2.1, q_u2 h.2.2.1 n a.toNatClampNeg x, h.2.2.2)) rfl (fun p l e R s m args below meth c D b base cA H locs cells slots lsA Q C hR hS hl kk => ?_) E
  have he := q_ws_get (ad := q_ad b base) (cA := cA) hk
  rw [q_en_l hk] at he
  skip
  refine va_last (D := D) (cl := q_cl) (tys := [(cA n, .long)]) C.1 C.2.1 (hR.2.2.2.1 n 1 N hk) hR.1 (q_D b base cA h) hS (n - 1) 0 he rfl hin hd (fun H1 locs1 hP1 hD1 hS1 => ?_)
  refine kk H1 locs1 ?_ hS1
  have hq : (q_ad b base n, Sum.inl (cA n, N, .inr (.inl (vp_updL (h.2.2.1 n) a.toNatClampNeg x)))) = q_en (q_ad b base) cA (h.1, h.2.1, q_u2 h.2.2.1 n a.toNatClampNeg x, h.2.2.2) n := by
    rw [q_en_l (N := N) (by cases n with | zero => cases hk | succ n => exact hk)]
    congr 4
    simp only [Sum.inr.injEq, Sum.inl.injEq]; funext j; simp [q_u2, vp_updL]
  rw [hq, q_ws_set (h := h) (h2 := (h.1, h.2.1, q_u2 h.2.2.1 n a.toNatClampNeg x, h.2.2.2)) rfl (fun m hm => q_en_ne rfl rfl (q_u2_ne hm) rfl) (q_kd_pos hk)] at hP1
  exact hP1
theorem q_x_aast {sc : Option (Nat × (Nat → Int32))} {i pc : Nat} {ls : List (Nat × Value)} {st : List Value} {h h2 : q_H} {r : Option Value} {n N : Nat} {a : Int32} {x : Nat} (hk : q_kd h n = some (.inr (2, N))) (hin : vp_in a N) (hkv : q_kd h x = some (.inl 1)) (hd : decode (q_cB i) pc = .ok (.aastore, 1)) (E : q_Ex sc i (pc + 1) ls st (h.1, h.2.1, h.2.2.1, q_u2 h.2.2.2 n a.toNatClampNeg (some x)) r h2) : q_Ex sc i pc ls (.ref x :: .int a :: .ref n :: st) h r h2 := by
  refine q_go1 (h1 := (h.1, h.2.1, h.2.2.1, q_u2 h.2.2.2 n a.toNatClampNeg (some x))) rfl (fun p l e R s m args below meth c D b base cA H locs cells slots lsA Q C hR hS hl kk => ?_) E
  have he := q_ws_get (ad := q_ad b base) (cA := cA) hk
  rw [q_en_q hk] at he
  have hv := q_ws_get (ad := q_ad b base) (cA := cA) hkv
  rw [q_en_obj hkv] at hv
  refine va_astq (D := D) (cl := q_cl) (tys := [(cA n, .object "RootForms$Form")]) (r := (RX1, TX1, 3)) C.1 C.2.1 (hR.2.2.2.1 n 2 N hk) hR.1 (q_D b base cA h) hS (n - 1) 0 (x - 1) 1 he rfl hv rfl hin hd (fun H1 locs1 hP1 hD1 hS1 => ?_)
  refine kk H1 locs1 ?_ hS1
  have hq : (q_ad b base n, Sum.inl (cA n, N, .inr (.inr (.inr (.inr (va_up (fun j => (h.2.2.2 n j).map (q_ad b base)) a.toNatClampNeg (some (q_ad b base x)))))))) = q_en (q_ad b base) cA (h.1, h.2.1, h.2.2.1, q_u2 h.2.2.2 n a.toNatClampNeg (some x)) n := by
    rw [q_en_q (N := N) (by cases n with | zero => cases hk | succ n => exact hk)]
    congr 4
    simp only [Sum.inr.injEq]; funext j; by_cases e : j = a.toNatClampNeg <;> simp [q_u2, va_up, e]
  rw [hq, q_ws_set (h := h) (h2 := (h.1, h.2.1, h.2.2.1, q_u2 h.2.2.2 n a.toNatClampNeg (some x))) rfl (fun m hm => q_en_ne rfl rfl rfl (q_u2_ne hm)) (q_kd_pos hk)] at hP1
  exact hP1
