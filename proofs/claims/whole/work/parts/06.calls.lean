/-! calls -/
theorem q_goodIn {ws : List Cond} (h : ∀ w ∈ ws, w ∈ q_tbl) : GoodIn q_tbl ws := fun w hw => ⟨h w hw, good_of_word (List.mem_filter.mp (h w hw)).2⟩
theorem q_wM_in {j : Nat} (hj : j < 163) : ∀ w ∈ q_wM j, w ∈ q_tbl := fun w hw => ((q_good j hj) w hw).1
def q_calok (r : Nat × Nat × Nat × Nat × Nat × Nat × Nat) : Bool := decide (r.2.2.1 < 163) && (match r.2.2.2.1 with
  | 0 => decide (lw_tbl[r.2.2.2.2.1]? = some (.methodLink (q_cn r.1) r.2.1 (q_mY r.2.2.1))) && goodWord (.methodLink (q_cn r.1) r.2.1 (q_mY r.2.2.1)) && decide (lw_tbl[r.2.2.2.2.2.1]? = some (.instanceMethod (q_mY r.2.2.1))) && goodWord (.instanceMethod (q_mY r.2.2.1)) && decide (lw_tbl[r.2.2.2.2.2.2]? = some (.selects (q_mY r.2.2.1).cls (q_mY r.2.2.1) (q_mY r.2.2.1))) && goodWord (.selects (q_mY r.2.2.1).cls (q_mY r.2.2.1) (q_mY r.2.2.1))
  | 1 => decide (lw_tbl[r.2.2.2.2.1]? = some (.methodLink (q_cn r.1) r.2.1 (q_mY r.2.2.1))) && goodWord (.methodLink (q_cn r.1) r.2.1 (q_mY r.2.2.1)) && decide (lw_tbl[r.2.2.2.2.2.1]? = some (.static (q_mY r.2.2.1))) && goodWord (.static (q_mY r.2.2.1))
  | 2 => decide (lw_tbl[r.2.2.2.2.1]? = some (.methodLink (q_cn r.1) r.2.1 (q_mY r.2.2.1))) && goodWord (.methodLink (q_cn r.1) r.2.1 (q_mY r.2.2.1)) && decide (lw_tbl[r.2.2.2.2.2.1]? = some (.instanceMethod (q_mY r.2.2.1))) && goodWord (.instanceMethod (q_mY r.2.2.1)) && decide ((q_mY r.2.2.1).name = "<init>") && decide (q_mR r.2.2.1 = none)
  | _ => decide ((q_cn r.1, r.2.1, q_mY r.2.2.1) ∈ q_nst) && decide (lw_tbl[r.2.2.2.2.2.1]? = some (.instanceMethod (q_mY r.2.2.1))) && goodWord (.instanceMethod (q_mY r.2.2.1)) && decide ((q_mY r.2.2.1).name = "<init>") && decide (q_mR r.2.2.1 = none))
theorem q_cal_ok : q_cal.all q_calok = true := by decide +kernel
def q_cr (c idx j k : Nat) : Bool := q_cal.any (fun r => r.1 == c && r.2.1 == idx && r.2.2.1 == j && r.2.2.2.1 == k)
theorem q_cr_row {c idx j k : Nat} (h : q_cr c idx j k = true) : ∃ a1 a2 a3, q_calok (c, idx, j, k, a1, a2, a3) = true := by
  obtain ⟨r, hr, h2⟩ := List.any_eq_true.mp h
  simp only [Bool.and_eq_true, beq_iff_eq] at h2
  obtain ⟨⟨⟨e1, e2⟩, e3⟩, e4⟩ := h2
  have h1 := List.all_eq_true.mp q_cal_ok r hr
  obtain ⟨r1, r2, r3, r4, a1, a2, a3⟩ := r
  simp only at e1 e2 e3 e4
  subst e1; subst e2; subst e3; subst e4
  exact ⟨a1, a2, a3, h1⟩
/-- the room of a caller and of what it calls -/
def q_rm (i j : Nat) : Bool := decide (q_mF j + 1 ≤ q_mF i) && decide (8 + (q_mL j + 11) + q_mW j ≤ q_mW i)
theorem q_rm_at {i j : Nat} (h : q_rm i j = true) : q_mF j + 1 ≤ q_mF i ∧ 8 + (q_mL j + 11) + q_mW j ≤ q_mW i := by
  simp only [q_rm, Bool.and_eq_true, decide_eq_true_eq] at h
  exact h
def q_ct (st : List Value) : Nat := (st.map fun v => v.category).sum
theorem q_ct_map (ad : Nat → Nat) (st : List Value) : ((st.map (q_tv ad)).map fun v => v.category).sum = q_ct st := by
  unfold q_ct
  rw [List.map_map]
  congr 1
  apply List.map_congr_left
  intro v _
  exact q_tv_cat ad v
theorem q_blind {as : List Value} {D : va_G} {b base : Nat} {cA : Nat → Nat} {h : q_H} : FrameBlind (va_Pc as (fun U => q_R D b base cA h U U.heap)) := by
  intro a U g mk q
  obtain ⟨q0, q1⟩ := q
  exact ⟨q0, q1.same (U := U.calling g mk a) rfl⟩
theorem q_pre {as : List Value} {D : va_G} {b base : Nat} {cA : Nat → Nat} {h : q_H} {s : State} {H : Heap} (hR : q_R D b base cA h s H) (U : State) (hU : U.heap = H) (hW : s.WarmedH U.vm) : va_Pc as (fun U => q_R D b base cA h U U.heap) as.toArray U := by
  have h9 := hR.warm hW
  rw [← hU] at h9
  exact ⟨rfl, h9⟩
/-- behind a call -/
theorem q_back {sc : Option (Nat × (Nat → Int32))} {i pc j : Nat} {ls : List (Nat × Value)} {st st0 : List Value} {h h1 h2 : q_H} {r v : Option Value}
    (hm : h.1.length ≤ h1.1.length ∧ q_sl h ≤ q_sl h1)
    (hrun : ∀ (p : Program) (l : Launch) (e : Env) (R : Room) (s : State) (m : MethodId) (args : Array Value) (below : List Frame) (meth : Method) (c : Code) (D : va_G) (b base : Nat) (cA : Nat → Nat) (H : Heap) (locs : List Loc) (cells slots : Nat) (lsA : Array Slot),
      q_Cx i p R s m args meth c → q_R D b base cA h s H → lv_has lsA (q_mL i) (ls.map (q_tl (q_ad b base))) → cells + (h1.1.length - h.1.length) ≤ R.cells → slots + (q_sl h1 - q_sl h) ≤ R.slots →
      va_Run p l e R s m args below meth c H locs cells slots (h1.1.length - h.1.length) (q_sl h1 - q_sl h) (F0 m pc lsA (st0.map (q_tv (q_ad b base)))) (st.map (q_tv (q_ad b base))) (fun st o t => o = .returned (v.map (q_tv (q_ad b base))) ∧ (∃ cA2, q_R D b base cA2 h1 t t.heap) ∧ va_F (fun q => base ≤ q) st t) (fun q => base ≤ q))
    (E : q_Ex sc i (pc + 3) ls (v.toList ++ st) h1 r h2) : q_Ex sc i pc ls st0 h r h2 := by
  refine ⟨⟨Nat.le_trans hm.1 E.1.1, Nat.le_trans hm.2 E.1.2⟩, ?_⟩
  intro p l e R s m args below meth c D b base cA H locs cells slots s0 lsA Q C hR hS hb hSc e1 e2 e3 e4 hl k
  have g1 := E.1.1
  have g2 := E.1.2
  have hr := hrun p l e R s m args below meth c D b base cA H locs cells slots lsA C hR hl (by have := hm.1; omega) (by have := hm.2; omega)
  intro T hT X
  obtain ⟨v2, st₀, t, T', L, f0, X', hL, f1, f2, ⟨hv, ⟨cA2, hR2⟩, hF⟩, go⟩ := hr T hT X
  have hv : v2 = v.map (q_tv (q_ad b base)) := by injection hv
  subst hv
  have hal : t.vm.Alike s.vm := by rw [← f2]; exact X'.warmed.alike.symm
  have hw := E.2 p l e R s m args below meth c D b base cA2 T'.heap (locs ++ L) (cells + (h1.1.length - h.1.length)) (slots + (q_sl h1 - q_sl h)) s0 lsA Q C
    ⟨by rw [f1]; exact hR2.1, by rw [f1]; exact hR2.2.1, hR.2.2.1, fun n t2 N hn => va_K.moved hal (hR2.2.2.2.1 n t2 N hn), hR.2.2.2.2⟩
    ⟨by rw [f1]; have := hF.1; rw [f0] at this; exact Nat.le_trans hS.1 this, fun q u1 u2 => by
      rw [f1]
      have h9 := hF.2 q (by rw [f0]; exact Nat.lt_of_lt_of_le u1 hS.1) u2
      rw [f0] at h9
      exact h9.trans (hS.2.1 q u1 u2), fun q hq => by
      rcases List.mem_append.mp hq with hq | hq
      · exact hS.2.2 q hq
      · exact hL q hq⟩ hb hSc (by have := hm.1; omega) (by have := hm.2; omega) e3 e4 hl k
  have hst : (v.toList ++ st).map (q_tv (q_ad b base)) = (v.map (q_tv (q_ad b base))).toList ++ st.map (q_tv (q_ad b base)) := by cases v <;> rfl
  rw [hst] at hw
  obtain ⟨t2, a1, b1⟩ := hw T' rfl X'
  exact ⟨t2, go t2 a1, b1⟩
theorem q_len {as : List Value} {n : Nat} (ad : Nat → Nat) (h : as.length = n) : (as.map (q_tv ad)).length = n := by rw [List.length_map]; exact h
theorem q_callV {sc : Option (Nat × (Nat → Int32))} {i pc : Nat} {ls : List (Nat × Value)} {st : List Value} {h h1 h2 : q_H} {r v : Option Value} {idx : Nat} (j n ci : Nat) (as : List Value)
    (hc : q_cr (q_mC i) idx j 0 = true) (hrm : q_rm i j = true) (hn : as.length = q_mN j) (hct : q_ct st ≤ 8) (hk : q_kd h n = some (.inl ci)) (hci : ci < 10) (hcn : q_cn ci = (q_mY j).cls)
    (hd : decode (q_cB i) pc = .ok (.invokevirtual idx, 3)) (hCa : q_Ca j (.ref n :: as) h v h1) (E : q_Ex sc i (pc + 3) ls (v.toList ++ st) h1 r h2) : q_Ex sc i pc ls (as.reverse ++ .ref n :: st) h r h2 := by
  obtain ⟨a1, a2, a3, hrow⟩ := q_cr_row hc
  simp only [q_calok, Bool.and_eq_true, decide_eq_true_eq] at hrow
  obtain ⟨hj, ⟨⟨⟨⟨r1, r2⟩, r3⟩, r4⟩, r5⟩, r6⟩ := hrow
  obtain ⟨m1, m2, m3, m4, m5, m6, m7⟩ := q_mt_at hj
  obtain ⟨w1, w2⟩ := q_rm_at hrm
  refine q_back (j := j) hCa.1 ?_ E
  intro p l e R s m args below meth c D b base cA H locs cells slots lsA C hR hl hcl hsl
  obtain ⟨Cn, Tn, N, f1, f2, f3, f4, f5, f6, f7⟩ := q_cf ci hci
  have he := q_ws_get (ad := q_ad b base) (cA := cA) hk
  rw [q_en_obj hk] at he
  have hg : GoodIn q_tbl (wsV (q_cn (q_mC i)) idx (q_mY j).cls (q_mY j) (q_wM j)) := by
    refine q_goodIn (fun w hw => ?_)
    simp only [wsV, List.mem_append, List.mem_cons, List.not_mem_nil, or_false] at hw
    rcases hw with (rfl | rfl | rfl | rfl) | hw
    · exact q_tbl_of _ r1 r2
    · exact q_tbl_of _ r3 r4
    · exact q_tbl_of _ r5 r6
    · exact m2
    · exact q_wM_in hj w hw
  have hrc := va_recv hR.2.2.1 hR.1 (ci := ci) (q0 := n - 1) f1 he
  refine va_runV (C := (q_mY j).cls) (b := q_ad b base n) (As := as.map (q_tv (q_ad b base))) (rest := st.map (q_tv (q_ad b base))) ⟨C.1, C.2.1, C.2.2.2.1, C.2.2.2.2.1, C.2.2.2.2.2.1⟩ (hCa.2 l D b base cA) (cwV (q_mN j) C.2.2.2.2.2.1 hg rfl rfl rfl ⟨rfl, m5, m6, m7⟩ ⟨Nat.le_trans w1 C.2.2.2.2.2.2.2.2.1, Nat.le_trans w2 C.2.2.2.2.2.2.2.2.2⟩) ⟨q_blind, ?_, q_pre hR⟩ rfl (q_len _ hn) hl.1 ?_ ?_ hd ⟨hcl, hsl⟩
  · have h9 : Cn = (q_mY j).cls := f3.symm.trans hcn
    rw [← h9]
    exact hrc
  · simp [q_tv]
  · exact lv_room (by rw [q_ct_map]; exact hct)
theorem q_callS {sc : Option (Nat × (Nat → Int32))} {i pc : Nat} {ls : List (Nat × Value)} {st : List Value} {h h1 h2 : q_H} {r v : Option Value} {idx : Nat} (j : Nat) (as : List Value)
    (hc : q_cr (q_mC i) idx j 1 = true) (hrm : q_rm i j = true) (hn : as.length = q_mN j) (hct : q_ct st ≤ 8)
    (hd : decode (q_cB i) pc = .ok (.invokestatic idx, 3)) (hCa : q_Ca j as h v h1) (E : q_Ex sc i (pc + 3) ls (v.toList ++ st) h1 r h2) : q_Ex sc i pc ls (as.reverse ++ st) h r h2 := by
  obtain ⟨a1, a2, a3, hrow⟩ := q_cr_row hc
  simp only [q_calok, Bool.and_eq_true, decide_eq_true_eq] at hrow
  obtain ⟨hj, ⟨⟨r1, r2⟩, r3⟩, r4⟩ := hrow
  obtain ⟨m1, m2, m3, m4, m5, m6, m7⟩ := q_mt_at hj
  obtain ⟨w1, w2⟩ := q_rm_at hrm
  refine q_back (j := j) hCa.1 ?_ E
  intro p l e R s m args below meth c D b base cA H locs cells slots lsA C hR hl hcl hsl
  have hg : GoodIn q_tbl (va_wsS (q_cn (q_mC i)) idx (q_mY j) (q_wM j)) := by
    refine q_goodIn (fun w hw => ?_)
    simp only [va_wsS, List.mem_append, List.mem_cons, List.not_mem_nil, or_false] at hw
    rcases hw with (rfl | rfl | rfl) | hw
    · exact q_tbl_of _ r1 r2
    · exact q_tbl_of _ r3 r4
    · exact m2
    · exact q_wM_in hj w hw
  refine va_runS (As := as.map (q_tv (q_ad b base))) (rest := st.map (q_tv (q_ad b base))) ⟨C.1, C.2.1, C.2.2.2.1, C.2.2.2.2.1, C.2.2.2.2.2.1⟩ (hCa.2 l D b base cA) (va_cwS (q_mN j) C.2.2.2.2.2.1 hg rfl rfl rfl ⟨m5, m6, m7⟩ ⟨Nat.le_trans w1 C.2.2.2.2.2.2.2.2.1, Nat.le_trans w2 C.2.2.2.2.2.2.2.2.2⟩) ⟨q_blind, q_pre hR⟩ rfl (q_len _ hn) hl.1 ?_ ?_ hd ⟨hcl, hsl⟩
  · simp
  · exact lv_room (by rw [q_ct_map]; exact hct)
theorem q_callI {sc : Option (Nat × (Nat → Int32))} {i pc : Nat} {ls : List (Nat × Value)} {st : List Value} {h h1 h2 : q_H} {r : Option Value} {idx : Nat} (j n k : Nat) (as : List Value)
    (hc : q_cr (q_mC i) idx j k = true) (hkk : k = 2 ∨ k = 3) (hrm : q_rm i j = true) (hn : as.length = q_mN j) (hct : q_ct st ≤ 8)
    (hd : decode (q_cB i) pc = .ok (.invokespecial idx, 3)) (hCa : q_Ca j (.ref n :: as) h none h1) (E : q_Ex sc i (pc + 3) ls st h1 r h2) : q_Ex sc i pc ls (as.reverse ++ .ref n :: st) h r h2 := by
  obtain ⟨a1, a2, a3, hrow⟩ := q_cr_row hc
  obtain ⟨w1, w2⟩ := q_rm_at hrm
  refine q_back (j := j) (v := none) hCa.1 ?_ E
  intro p l e R s m args below meth c D b base cA H locs cells slots lsA C hR hl hcl hsl
  rcases hkk with rfl | rfl
  · simp only [q_calok, Bool.and_eq_true, decide_eq_true_eq] at hrow
    obtain ⟨hj, ⟨⟨⟨⟨r1, r2⟩, r3⟩, r4⟩, r5⟩, r6⟩ := hrow
    obtain ⟨m1, m2, m3, m4, m5, m6, m7⟩ := q_mt_at hj
    have hcc : q_wM j = Cond.code (q_mY j) (q_cB j) (q_mL j) none :: q_tbl := by unfold q_wM; rw [r6]
    refine va_runI (b := q_ad b base n) (As := as.map (q_tv (q_ad b base))) (rest := st.map (q_tv (q_ad b base))) ⟨C.1, C.2.1, C.2.2.2.1, C.2.2.2.2.1, C.2.2.2.2.2.1⟩ (hCa.2 l D b base cA) (cwI (q_mN j) C.2.2.2.2.2.1 (q_good j hj) hcc rfl rfl (C.2.2.2.2.2.1 _ m2) (C.2.2.2.2.2.1 _ (q_tbl_of _ r1 r2)) (C.2.2.2.2.2.1 _ (q_tbl_of _ r3 r4)) r5 ⟨m5, m6, m7⟩ ⟨Nat.le_trans w1 C.2.2.2.2.2.2.2.2.1, Nat.le_trans w2 C.2.2.2.2.2.2.2.2.2⟩) ⟨q_blind, q_pre hR⟩ rfl (q_len _ hn) hl.1 ?_ ?_ hd ⟨hcl, hsl⟩
    · simp [q_tv]
    · exact lv_room (by rw [q_ct_map]; exact hct)
  · simp only [q_calok, Bool.and_eq_true, decide_eq_true_eq] at hrow
    obtain ⟨hj, ⟨⟨⟨r1, r3⟩, r4⟩, r5⟩, r6⟩ := hrow
    obtain ⟨m1, m2, m3, m4, m5, m6, m7⟩ := q_mt_at hj
    have hcc : q_wM j = Cond.code (q_mY j) (q_cB j) (q_mL j) none :: q_tbl := by unfold q_wM; rw [r6]
    have hn1 : va_Nw (.methodLinkNest (q_cn (q_mC i)) idx (q_mY j) "RootForms") s := hR.2.2.2.2.1 (q_cn (q_mC i), idx, q_mY j) r1
    have hcn : va_CN R s args (q_cn (q_mC i)) idx (q_mY j) "RootForms" (q_cB j) (q_mL j) none (q_wM j) { frames := q_mF j, cells := h1.1.length - h.1.length, slots := q_sl h1 - q_sl h, locals := q_mW j } (h1.1.length - h.1.length) (q_sl h1 - q_sl h) (q_mN j) := va_cnB (q_mN j) C.2.2.2.2.2.1 (q_good j hj) hcc rfl rfl hn1 (C.2.2.2.2.2.1 _ m2) ⟨m5, m6, m7⟩ ⟨Nat.le_trans w1 C.2.2.2.2.2.2.2.2.1, Nat.le_trans w2 C.2.2.2.2.2.2.2.2.2⟩
    refine va_runIN (host := "RootForms") (b := q_ad b base n) (As := as.map (q_tv (q_ad b base))) (rest := st.map (q_tv (q_ad b base))) ⟨C.1, C.2.1, C.2.2.2.1, C.2.2.2.2.1, C.2.2.2.2.2.1⟩ (hCa.2 l D b base cA) ⟨hcn, r5, C.2.2.2.2.2.1 _ (q_tbl_of _ r3 r4)⟩ ⟨q_blind, q_pre hR⟩ rfl (q_len _ hn) hl.1 ?_ ?_ hd ⟨hcl, hsl⟩
    · simp [q_tv]
    · exact lv_room (by rw [q_ct_map]; exact hct)
def q_objok (r : Nat × Nat × Nat) : Bool := decide (lw_tbl[r.2.2]? = some (.methodLink (q_cn r.1) r.2.1 Lib.objectInit)) && goodWord (.methodLink (q_cn r.1) r.2.1 Lib.objectInit)
theorem q_obj_ok : q_obj.all q_objok = true := by decide +kernel
set_option maxRecDepth 100000 in
theorem q_objw : Cond.instanceMethod Lib.objectInit ∈ q_tbl ∧ Cond.code Lib.objectInit ⟨#[0xb1]⟩ 1 none ∈ q_tbl := ⟨q_tbl_of 69 rfl rfl, q_tbl_of 70 rfl rfl⟩
theorem q_objI {sc : Option (Nat × (Nat → Int32))} {i pc : Nat} {ls : List (Nat × Value)} {st : List Value} {h h2 : q_H} {r : Option Value} {idx n : Nat}
    (hc : q_obj.any (fun r => r.1 == q_mC i && r.2.1 == idx) = true) (hrm : (decide (1 ≤ q_mF i) && decide (q_ct st + 12 ≤ q_mW i)) = true)
    (hd : decode (q_cB i) pc = .ok (.invokespecial idx, 3)) (E : q_Ex sc i (pc + 3) ls st h r h2) : q_Ex sc i pc ls (.ref n :: st) h r h2 := by
  obtain ⟨w, hw, e⟩ := List.any_eq_true.mp hc
  simp only [Bool.and_eq_true, beq_iff_eq] at e
  simp only [Bool.and_eq_true, decide_eq_true_eq] at hrm
  have h1 := List.all_eq_true.mp q_obj_ok w hw
  simp only [q_objok, Bool.and_eq_true, decide_eq_true_eq] at h1
  rw [e.1, e.2] at h1
  refine q_go0 (fun p l e R s m args below meth c D b base cA H locs cells slots lsA Q C hR hS hSc hl kk => ?_) E
  refine W.objInit C.1 C.2.1 C.2.2.2.2.1 (C.2.2.2.2.2.1 _ (q_tbl_of _ h1.1 h1.2)) (C.2.2.2.2.2.1 _ q_objw.1) (C.2.2.2.2.2.1 _ q_objw.2) rfl (by rw [C.2.2.2.1]; exact hl.1) rfl hd (Nat.le_trans hrm.1 C.2.2.2.2.2.2.2.2.1) ?_ (kk lsA hl)
  have h9 := q_ct_map (q_ad b base) st
  have h8 := C.2.2.2.2.2.2.2.2.2
  show 2 * 0 + ((st.map (q_tv (q_ad b base))).map fun v => v.category).sum + 12 ≤ R.locals
  omega
/-! a whole call out of its body -/
theorem q_args_map (ad : Nat → Nat) (as : List Value) : ∀ k, lv_args k (as.map (q_tv ad)) = (lv_args k as).map (q_tl ad) := by
  induction as with
  | nil => intro k; rfl
  | cons a as ih =>
    intro k
    simp only [List.map_cons, lv_args, q_tv_cat, ih]
    rfl
theorem q_sl_map (ad : Nat → Nat) (as : List Value) : (lg_sl (as.map (q_tv ad))).length = (lg_sl as).length := by
  induction as with
  | nil => rfl
  | cons a as ih =>
    have e : ∀ (v : Value) (vs : List Value), (lg_sl (v :: vs)).length = (if v.category = 2 then 2 else 1) + (lg_sl vs).length := by
      intro v vs
      simp only [lg_sl, List.flatMap_cons, List.length_append]
      split <;> rfl
    rw [List.map_cons, e, e, q_tv_cat, ih]
theorem q_ofW {l : Launch} {y : MethodName} {ws ws' : List Cond} {rm : Room} {Pc : Array Value → State → Prop} {Qc : Array Value → State → Outcome → State → Prop} {mc ms : Nat} {free : Addr → Prop} {cc : ByteArray} {maxL : Nat} {ret : Option FieldType}
    (hy : plainFor y = true) (hw : ws = Cond.code y cc maxL ret :: ws')
    (body : ∀ p e s m args below meth c s₁, BodyLoose p l y (headSpec ws rm) cc maxL ret e s m args below meth c s₁ → c.maxLocals = maxL → Pc args s →
      W p l e (headSpec ws rm).room s m args below meth c s.heap [] 0 0 (MQ below Qc args s mc ms free) (entryFrame m args maxL)) : Met l y ws rm Pc Qc mc ms free := by
  refine MetFree.of_bodySF (code := cc) (maxLocals := maxL) (ret := ret) hy ?_ ?_
  · intro args s m h hn
    obtain ⟨meth, c, h1, h2, h3, h4, h5, h6, -, -⟩ := Cond.code_spec hn (atoms_spec (ws := ws) h _ (by rw [hw]; exact List.mem_cons_self))
    exact ⟨meth, c, h1, h2, h3, h4, h5, h6⟩
  · intro p e s m args below meth c s₁ B hml hP _
    have hh0 : s₁.heap = s.heap := by rw [B.state]; rfl
    obtain ⟨t, a1, o, b1, b2, b3⟩ := body p e s m args below meth c s₁ B hml hP s₁ hh0 (Stand.of_body B)
    exact ⟨t, o, a1, b1, b2, ⟨b3.1, b3.2⟩⟩
theorem q_Ca_of {j : Nat} {as : List Value} {h h2 : q_H} {r : Option Value} (hj : j < 163) (hl : (lg_sl as).length ≤ q_mL j) (E : q_Ex none j 0 (lv_args 0 as) [] h r h2) : q_Ca j as h r h2 := by
  refine ⟨E.1, ?_⟩
  intro l D b base cA
  obtain ⟨m1, m2, m3, m4, m5, m6, m7⟩ := q_mt_at hj
  refine q_ofW (cc := q_cB j) (maxL := q_mL j) (ret := q_mR j) m4 rfl ?_
  intro p e s m args below meth c s₁ B hml hv
  obtain ⟨rfl, hR⟩ := hv
  have hts := atoms_spec (ws := q_wM j) B.pre
  have hown : s.vm.findClass (q_mY j).cls = some m.cls := findClass_of_methodNamed B.named
  rw [lg_entry_eq]
  have hl2 := lv_entry (as.map (q_tv (q_ad b base))) (n := q_mL j) (by rw [q_sl_map]; exact hl)
  rw [q_args_map] at hl2
  generalize (lg_sl (as.map (q_tv (q_ad b base))) ++ List.replicate (q_mL j - (lg_sl (as.map (q_tv (q_ad b base)))).length) Slot.unset).toArray = lsA at hl2 ⊢
  have C : q_Cx j p (headSpec (q_wM j) { frames := q_mF j, cells := h2.1.length - h.1.length, slots := q_sl h2 - q_sl h, locals := q_mW j }).room s m (as.map (q_tv (q_ad b base))).toArray meth c :=
    ⟨B.exec, B.bytes, B.returns, hml, by rw [m3]; exact hown, fun w hw => hts w (List.mem_cons_of_mem _ hw), B.notSynchronized, fun hn => by rw [← hn]; exact (name_of_methodNamed B.named B.method).1, Nat.le_refl _, Nat.le_refl _⟩
  have hsz := hR.2.1
  have g1 := E.1.1
  have g2 := E.1.2
  refine E.2 p l e _ s m _ below meth c D b base cA s.heap [] 0 0 (q_sl h) lsA _ C hR va_S.rf (by omega) (fun L xs hh => by cases hh) (by omega) (by omega) ?_ ?_ hl2 ?_
  · show base + h2.1.length ≤ h2.1.length - h.1.length + s.heap.size
    omega
  · show q_sl h2 ≤ q_sl h2 - q_sl h + q_sl h
    omega
  · intro pcR lsR cA2 H2 locs2 cells2 slots2 hrt hR2 hS2 c1 c2
    have ec : cells2 = h2.1.length - h.1.length := by omega
    have es : slots2 = q_sl h2 - q_sl h := by omega
    subst ec; subst es
    have hq : ∀ t : State, t.heap = H2 → s.WarmedH t.vm → (Outcome.returned (r.map (q_tv (q_ad b base))) = .returned (r.map (q_tv (q_ad b base))) ∧ (∃ cA2, q_R D b base cA2 h2 t t.heap) ∧ va_F (fun q => base ≤ q) s t) :=
      fun t ht hW => ⟨rfl, ⟨cA2, by rw [ht]; exact hR2.warm hW⟩, hS2.F ht⟩
    have hlocks := B.notSynchronized
    cases r with
    | none => exact W.vret C.1 C.2.1 (by rw [C.2.2.1]; exact hrt.2) hq hS2.2.2 hrt.1
    | some w =>
      cases w with
      | int v =>
        obtain ⟨hd, ty, h1, h3⟩ := hrt
        exact W.zret C.1 C.2.1 (by rw [C.2.2.1]; exact h1) h3 hq hS2.2.2 hd
      | long v => exact W.lret C.1 C.2.1 (by rw [C.2.2.1]; exact hrt.2) hq hS2.2.2 hrt.1
      | ref a =>
        obtain ⟨hd, n, h1⟩ := hrt
        exact W.aret C.1 C.2.1 (by rw [C.2.2.1]; exact h1) (Or.inl ⟨n, rfl⟩) (Or.inr ⟨_, rfl⟩) hq hS2.2.2 hd
      | null =>
        obtain ⟨hd, n, h1⟩ := hrt
        exact W.aret C.1 C.2.1 (by rw [C.2.2.1]; exact h1) (Or.inl ⟨n, rfl⟩) (Or.inl rfl) hq hS2.2.2 hd
      | _ => exact absurd hrt id
