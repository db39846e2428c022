/-! what a method makes -/
def q_zz {α : Type} (f : Nat → Nat → α) (o : Nat) (v : α) : Nat → Nat → α := fun a c => if a = o then v else f a c
def q_al (h : q_H) (x : q_Kd) : q_H := (h.1 ++ [x], q_zz h.2.1 (h.1.length + 1) 0, q_zz h.2.2.1 (h.1.length + 1) 0, q_zz h.2.2.2 (h.1.length + 1) none)
def q_dv (ci k : Nat) : Value := match q_fk ci k with
  | 0 => .int 0
  | 1 => .long 0
  | _ => .null
def q_e0 (x : q_Kd) (cA : Nat) : va_E := match x with
  | .inl ci => .inr (ci, (List.range (q_nf ci)).map (q_dv ci))
  | .inr (0, N) => .inl (cA, N, .inl (fun _ => 0))
  | .inr (1, N) => .inl (cA, N, .inr (.inl (fun _ => 0)))
  | .inr (_, N) => .inl (cA, N, .inr (.inr (.inr (.inr (fun _ => none)))))
theorem q_kd_old (h : q_H) (x : q_Kd) {m : Nat} (hm : m ≤ h.1.length) : q_kd (q_al h x) m = q_kd h m := by
  cases m with
  | zero => rfl
  | succ k =>
    show (h.1 ++ [x])[k]? = h.1[k]?
    exact List.getElem?_append_left (by omega)
theorem q_kd_new (h : q_H) (x : q_Kd) : q_kd (q_al h x) (h.1.length + 1) = some x := by
  show (h.1 ++ [x])[h.1.length]? = some x
  simp
theorem q_zz_ne {α : Type} {f : Nat → Nat → α} {o m : Nat} {v : α} (h : m ≠ o) : q_zz f o v m = f m := by funext c; simp [q_zz, h]
theorem q_zz_at {α : Type} {f : Nat → Nat → α} {o : Nat} {v : α} : q_zz f o v o = fun _ => v := by funext c; simp [q_zz]
theorem q_en_old {ad cA cA2 : Nat → Nat} {h : q_H} {x : q_Kd} {m : Nat} (hm : m ≤ h.1.length) (hc : cA2 m = cA m) : q_en ad cA2 (q_al h x) m = q_en ad cA h m := by
  have ek := q_kd_old h x hm
  have e1 : (q_al h x).2.1 m = h.2.1 m := q_zz_ne (by omega)
  have e2 : (q_al h x).2.2.1 m = h.2.2.1 m := q_zz_ne (by omega)
  have e3 : (q_al h x).2.2.2 m = h.2.2.2 m := q_zz_ne (by omega)
  have ef : ∀ ci, q_fv ad (q_al h x) ci m = q_fv ad h ci m := fun ci => funext fun k => by simp only [q_fv, e1, e2, e3]
  simp only [q_en, ek, e1, e2, e3, ef, hc]
theorem q_en_new {ad cA : Nat → Nat} {h : q_H} {x : q_Kd} (hx : ∀ t N, x = .inr (t, N) → t < 3) : q_en ad cA (q_al h x) (h.1.length + 1) = (ad (h.1.length + 1), q_e0 x (cA (h.1.length + 1))) := by
  have e1 : (q_al h x).2.1 (h.1.length + 1) = fun _ => 0 := q_zz_at
  have e2 : (q_al h x).2.2.1 (h.1.length + 1) = fun _ => 0 := q_zz_at
  have e3 : (q_al h x).2.2.2 (h.1.length + 1) = fun _ => none := q_zz_at
  have ef : ∀ ci, q_fv ad (q_al h x) ci (h.1.length + 1) = q_dv ci := fun ci => funext fun k => by
    simp only [q_fv, q_dv, e1, e2, e3]
    rcases hk : q_fk ci k with _ | _ | _ <;> rfl
  simp only [q_en, q_kd_new]
  congr 1
  match x, hx with
  | .inl ci, _ => simp only [q_e0, ef]
  | .inr (0, N), _ => simp only [q_e0, e1]
  | .inr (1, N), _ => simp only [q_e0, e2]
  | .inr (2, N), _ => simp only [q_e0, e3]; rfl
  | .inr (t + 3, N), hx => exact absurd (hx _ _ rfl) (by omega)
theorem q_ws_al {ad cA cA2 : Nat → Nat} {h : q_H} {x : q_Kd} (hc : ∀ m, m ≤ h.1.length → cA2 m = cA m) : q_ws ad cA2 (q_al h x) = q_ws ad cA h ++ [q_en ad cA2 (q_al h x) (h.1.length + 1)] := by
  unfold q_ws
  have hl : (q_al h x).1.length = h.1.length + 1 := by simp [q_al]
  rw [hl, List.range_succ, List.map_append]
  congr 1
  apply List.map_congr_left
  intro k hk
  have hk := List.mem_range.mp hk
  exact q_en_old (by omega) (hc _ (by omega))
theorem q_sl_al (h : q_H) (x : q_Kd) : q_sl (q_al h x) = q_sl h + q_sz x := by simp [q_sl, q_al]
theorem q_go2 {sc : Option (Nat × (Nat → Int32))} {i pc pc2 : Nat} {ls : List (Nat × Value)} {st st0 : List Value} {h h2 : q_H} {r : Option Value} (x : q_Kd) (hx : ∀ t N, x = .inr (t, N) → t < 3)
    (hW : ∀ (p : Program) (l : Launch) (e : Env) (R : Room) (s : State) (m : MethodId) (args : Array Value) (below : List Frame) (meth : Method) (c : Code) (D : va_G) (b base : Nat) (cA : Nat → Nat) (H : Heap) (locs : List Loc) (cells slots : Nat) (lsA : Array Slot) (Q : State → Prop),
      q_Cx i p R s m args meth c → q_R D b base cA h s H → va_S (fun q => base ≤ q) H H locs → base ≤ H.size → cells + 1 ≤ R.cells → slots + q_sz x ≤ R.slots →
      (∀ (q cAn : Nat) (H1 : Heap), va_P D q_cl (q_ws (q_ad b base) cA h ++ [(q, q_e0 x cAn)]) H1 → va_D (fun q => base ≤ q) (q_ws (q_ad b base) cA h ++ [(q, q_e0 x cAn)]) → va_S (fun q => base ≤ q) H H1 locs → (∀ t N, x = .inr (t, N) → va_K D q_cl [(cAn, q_et t)] s) →
        W p l e R s m args below meth c H1 locs (cells + 1) (slots + q_sz x) Q (F0 m pc2 lsA (.ref q :: st.map (q_tv (q_ad b base))))) →
      W p l e R s m args below meth c H locs cells slots Q (F0 m pc lsA (st0.map (q_tv (q_ad b base)))))
    (E : q_Ex sc i pc2 ls (.ref (h.1.length + 1) :: st) (q_al h x) r h2) : q_Ex sc i pc ls st0 h r h2 := by
  have hl : (q_al h x).1.length = h.1.length + 1 := by simp [q_al]
  have hs := q_sl_al h x
  have g1 := E.1.1
  have g2 := E.1.2
  refine ⟨⟨by omega, by omega⟩, ?_⟩
  intro p l e R s m args below meth c D b base cA H locs cells slots s0 lsA Q C hR hS hb hSc e1 e2 e3 e4 hlv k
  have hsz := hR.2.1
  refine hW p l e R s m args below meth c D b base cA H locs cells slots lsA Q C hR ⟨Nat.le_refl _, fun _ _ _ => rfl, hS.2.2⟩ (by omega) (by omega) (by omega) ?_
  intro q cAn H1 hP1 hD1 hS1 hK1
  refine q_W.sz (fun hz => ?_)
  have hlen : (q_ws (q_ad b base) cA h).length = h.1.length := q_ws_len _ _ _
  have hat : (q_ws (q_ad b base) cA h ++ [(q, q_e0 x cAn)])[h.1.length]? = some (q, q_e0 x cAn) := by
    rw [List.getElem?_append_right (by omega), hlen]
    simp
  have hq1 : base ≤ q := hD1.2 _ _ hat
  have hq2 : q < H1.size := (hP1 _ _ hat).lt
  have hq3 : ¬ q < base + h.1.length := by
    intro hlt
    have hk : q - base < h.1.length := by omega
    have hat2 : (q_ws (q_ad b base) cA h ++ [(q, q_e0 x cAn)])[q - base]? = some (q_en (q_ad b base) cA h (q - base + 1)) := by
      rw [List.getElem?_append_left (by omega)]
      simp [q_ws, hk]
    have h9 := hD1.1 _ _ _ _ hat hat2 (by simp only [q_en, q_ad]; omega)
    omega
  have hq : q = q_ad b base (h.1.length + 1) := by simp only [q_ad]; omega
  have hcA : ∀ m, m ≤ h.1.length → (fun n => if n = h.1.length + 1 then cAn else cA n) m = cA m := fun m hm => if_neg (by omega)
  have hz1 : H1.size = base + (q_al h x).1.length := by have := hS1.1; omega
  have hw := E.2 p l e R s m args below meth c D b base (fun n => if n = h.1.length + 1 then cAn else cA n) H1 locs (cells + 1) (slots + q_sz x) s0 lsA Q C
    ⟨by rw [q_ws_al hcA, q_en_new hx]; simp only [if_true]; rw [← hq]; exact hP1, hz1, hR.2.2.1, fun n t N hn => by
      by_cases hn2 : n = h.1.length + 1
      · subst hn2
        rw [q_kd_new] at hn
        simp only [if_true]
        exact hK1 t N (Option.some.inj hn)
      · have hn3 : n ≤ h.1.length := by
          cases n with
          | zero => omega
          | succ n =>
            have h9 : (h.1 ++ [x])[n]? = some (.inr (t, N)) := hn
            have h8 := (List.getElem?_eq_some_iff.mp h9).1
            simp at h8
            omega
        rw [q_kd_old h x hn3] at hn
        simp only [if_neg hn2]
        exact hR.2.2.2.1 n t N hn, hR.2.2.2.2⟩
    ⟨Nat.le_trans hS.1 hS1.1, fun q2 u1 u2 => (hS1.2.1 q2 (Nat.lt_of_lt_of_le u1 hS.1) u2).trans (hS.2.1 q2 u1 u2), hS1.2.2⟩ hb hSc (by omega) (by omega) e3 e4 hlv k
  rw [List.map_cons] at hw
  show W p l e R s m args below meth c H1 locs (cells + 1) (slots + q_sz x) Q (F0 m pc2 lsA (.ref q :: st.map (q_tv (q_ad b base))))
  rw [hq]
  exact hw
def q_newok (r : Nat × Nat × Nat × Nat × Nat × Nat) : Bool := decide (r.2.2.1 < 10) && decide (lw_tbl[r.2.2.2.1]? = some (.classLink (q_cn r.1) r.2.1 (q_cn r.2.2.1))) && goodWord (.classLink (q_cn r.1) r.2.1 (q_cn r.2.2.1)) && decide (lw_tbl[r.2.2.2.2.1]? = some (.instantiable (q_cn r.2.2.1) (q_nf r.2.2.1))) && goodWord (.instantiable (q_cn r.2.2.1) (q_nf r.2.2.1)) && decide (lw_tbl[r.2.2.2.2.2]? = some (.initialized (q_cn r.2.2.1))) && goodWord (.initialized (q_cn r.2.2.1))
theorem q_new_ok : q_new.all q_newok = true := by decide +kernel
def q_nw (c idx ci : Nat) : Bool := q_new.any (fun r => r.1 == c && r.2.1 == idx && r.2.2.1 == ci)
theorem q_nw_at {c idx ci : Nat} (h : q_nw c idx ci = true) : ci < 10 ∧ Cond.classLink (q_cn c) idx (q_cn ci) ∈ q_tbl ∧ Cond.instantiable (q_cn ci) (q_nf ci) ∈ q_tbl ∧ Cond.initialized (q_cn ci) ∈ q_tbl := by
  obtain ⟨r, hr, h2⟩ := List.any_eq_true.mp h
  simp only [Bool.and_eq_true, beq_iff_eq] at h2
  obtain ⟨⟨e1, e2⟩, e3⟩ := h2
  have h1 := List.all_eq_true.mp q_new_ok r hr
  simp only [q_newok, Bool.and_eq_true, decide_eq_true_eq] at h1
  rw [e1, e2, e3] at h1
  obtain ⟨⟨⟨⟨⟨⟨a1, a2⟩, a3⟩, a4⟩, a5⟩, a6⟩, a7⟩ := h1
  exact ⟨a1, q_tbl_of _ a2 a3, q_tbl_of _ a4 a5, q_tbl_of _ a6 a7⟩
theorem q_dv_ok {ci k : Nat} (hci : ci < 10) (hk : k < q_nf ci) : defaultValue (q_ty ci k) = q_dv ci k := by
  have h := q_fts_at hci hk
  unfold q_fts at h
  unfold q_dv
  split at h <;> simp_all [defaultValue]
theorem q_x_new {sc : Option (Nat × (Nat → Int32))} {i pc : Nat} {ls : List (Nat × Value)} {st : List Value} {h h2 : q_H} {r : Option Value} {idx : Nat} (ci : Nat) (hn : q_nw (q_mC i) idx ci = true)
    (hd : decode (q_cB i) pc = .ok (.new idx, 3)) (E : q_Ex sc i (pc + 3) ls (.ref (h.1.length + 1) :: st) (q_al h (.inl ci)) r h2) : q_Ex sc i pc ls st h r h2 := by
  obtain ⟨hci, w1, w2, w3⟩ := q_nw_at hn
  obtain ⟨Cn, T, N, f1, f2, f3, f4, f5, f6, f7⟩ := q_cf ci hci
  subst f4
  subst f3
  refine q_go2 (.inl ci) (fun t N e => by cases e) (fun p l e R s m args below meth c D b base cA H locs cells slots lsA Q C hR hS hb hc1 hs1 kk => ?_) E
  refine va_new (D := D) (cl := q_cl) (tys := []) (A := fun q => base ≤ q) (fs := (List.range (q_nf ci)).map (q_dv ci)) C.1 C.2.1 C.2.2.2.2.2.1 f5 (q_ty ci) f6 C.2.2.2.2.1 (C.2.2.2.2.2.1 _ w1) (C.2.2.2.2.2.1 _ w2) (C.2.2.2.2.2.1 _ w3) hR.2.2.1 hR.1 (q_D b base cA h) hS (fun q hq => Nat.le_trans hb hq) f1 ?_ hc1 hs1 hd (fun q H1 hP1 hD1 hS1 => kk q 0 H1 hP1 hD1 hS1 (fun t N e => by cases e))
  intro j hj
  rw [q_dv_ok hci hj]
  simp [vp_V, hj]
set_option maxRecDepth 100000 in
theorem q_arw : Cond.arrayClass .int ∈ q_tbl ∧ Cond.arrayClass .long ∈ q_tbl := ⟨q_tbl_of 128 rfl rfl, q_tbl_of 941 rfl rfl⟩
theorem q_x_newi {sc : Option (Nat × (Nat → Int32))} {i pc : Nat} {ls : List (Nat × Value)} {st : List Value} {h h2 : q_H} {r : Option Value} {n : Int32} (N : Nat) (hn : ¬ n < 0) (hN : n.toNatClampNeg = N) (hNb : N ≤ 100000)
    (hd : decode (q_cB i) pc = .ok (.newarray .int, 2)) (E : q_Ex sc i (pc + 2) ls (.ref (h.1.length + 1) :: st) (q_al h (.inr (0, N))) r h2) : q_Ex sc i pc ls (.int n :: st) h r h2 := by
  refine q_go2 (.inr (0, N)) (fun t N e => by cases e; decide) (fun p l e R s m args below meth c D b base cA H locs cells slots lsA Q C hR hS hb hc1 hs1 kk => ?_) E
  refine va_newa (atype := .int) (D := D) (cl := q_cl) (tys := []) (A := fun q => base ≤ q) (ty := .int) (a0 := (N, .inl (fun _ => 0))) C.1 C.2.1 (C.2.2.2.2.2.1 _ q_arw.1) rfl hR.2.2.1 hR.1 (q_D b base cA h) hS (fun q hq => Nat.le_trans hb hq) (fun cA => rfl) hn hN ?_ hc1 hs1 hd (fun q cAn H1 hK1 hP1 hD1 hS1 => kk q cAn H1 hP1 hD1 hS1 (fun t N e => by cases e; exact hK1))
  show N * 4 ≤ 536870912
  omega
theorem q_x_newl {sc : Option (Nat × (Nat → Int32))} {i pc : Nat} {ls : List (Nat × Value)} {st : List Value} {h h2 : q_H} {r : Option Value} {n : Int32} (N : Nat) (hn : ¬ n < 0) (hN : n.toNatClampNeg = N) (hNb : N ≤ 100000)
    (hd : decode (q_cB i) pc = .ok (.newarray .long, 2)) (E : q_Ex sc i (pc + 2) ls (.ref (h.1.length + 1) :: st) (q_al h (.inr (1, N))) r h2) : q_Ex sc i pc ls (.int n :: st) h r h2 := by
  refine q_go2 (.inr (1, N)) (fun t N e => by cases e; decide) (fun p l e R s m args below meth c D b base cA H locs cells slots lsA Q C hR hS hb hc1 hs1 kk => ?_) E
  refine va_newa (atype := .long) (D := D) (cl := q_cl) (tys := []) (A := fun q => base ≤ q) (ty := .long) (a0 := (N, .inr (.inl (fun _ => 0)))) C.1 C.2.1 (C.2.2.2.2.2.1 _ q_arw.2) rfl hR.2.2.1 hR.1 (q_D b base cA h) hS (fun q hq => Nat.le_trans hb hq) (fun cA => rfl) hn hN ?_ hc1 hs1 hd (fun q cAn H1 hK1 hP1 hD1 hS1 => kk q cAn H1 hP1 hD1 hS1 (fun t N e => by cases e; exact hK1))
  show N * 8 ≤ 536870912
  omega
theorem q_x_newq {sc : Option (Nat × (Nat → Int32))} {i pc : Nat} {ls : List (Nat × Value)} {st : List Value} {h h2 : q_H} {r : Option Value} {n : Int32} {idx : Nat} (N : Nat) (hw : q_nw (q_mC i) idx 1 = true) (hn : ¬ n < 0) (hN : n.toNatClampNeg = N) (hNb : N ≤ 100000)
    (hd : decode (q_cB i) pc = .ok (.anewarray idx, 3)) (E : q_Ex sc i (pc + 3) ls (.ref (h.1.length + 1) :: st) (q_al h (.inr (2, N))) r h2) : q_Ex sc i pc ls (.int n :: st) h r h2 := by
  obtain ⟨hci, w1, w2, w3⟩ := q_nw_at hw
  refine q_go2 (.inr (2, N)) (fun t N e => by cases e; decide) (fun p l e R s m args below meth c D b base cA H locs cells slots lsA Q C hR hS hb hc1 hs1 kk => ?_) E
  exact va_newq (D := D) (cl := q_cl) (tys := []) (A := fun q => base ≤ q) (C := "RootForms$Form") C.1 C.2.1 C.2.2.2.2.1 (C.2.2.2.2.2.1 _ w1) hR.2.2.2.2.2 hR.2.2.1 hR.1 (q_D b base cA h) hS (fun q hq => Nat.le_trans hb hq) hn hN (by omega) hc1 hs1 hd (fun q cAn H1 hK1 hP1 hD1 hS1 => kk q cAn H1 hP1 hD1 hS1 (fun t N e => by cases e; exact hK1))
