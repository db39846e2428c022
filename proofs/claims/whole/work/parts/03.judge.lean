/-! the judgement q_Ex: from a place of a method, with locals, stack and heap as pictures, the method comes to its end with the answer r and the heap h2; q_Ca: a whole call -/
def q_nst : List (String × Nat × MethodName) := [(RX9, 51, yX5_init), (RX9, 58, yX1_init), (RX0, 36, yX1_init), (RX6, 17, yX1_init)]
def q_Nst (U : State) : Prop := (∀ q ∈ q_nst, va_Nw (.methodLinkNest q.1 q.2.1 q.2.2 "RootForms") U) ∧ va_AO "RootForms$Form" U
theorem q_Nst.warm {s U : State} (hW : s.WarmedH U.vm) (h : q_Nst s) : q_Nst U := ⟨fun q hq => va_Nw.warmM hW (h.1 q hq), h.2.moved hW.alike⟩
theorem q_Nst.same {s U : State} (e : s.vm = U.vm) (h : q_Nst s) : q_Nst U := ⟨fun q hq => va_Nw.same rfl e (h.1 q hq), h.2.moved (e ▸ Vm.Alike.refl s.vm)⟩
def q_R (D : va_G) (b base : Nat) (cA : Nat → Nat) (h : q_H) (U : State) (H : Heap) : Prop :=
  va_P D q_cl (q_ws (q_ad b base) cA h) H ∧ H.size = base + h.1.length ∧ va_K D q_cl [] U ∧ (∀ n t N, q_kd h n = some (.inr (t, N)) → va_K D q_cl [(cA n, q_et t)] U) ∧ q_Nst U
theorem q_R.warm {D : va_G} {b base : Nat} {cA : Nat → Nat} {h : q_H} {s U : State} {H : Heap} (hW : s.WarmedH U.vm) (hR : q_R D b base cA h s H) : q_R D b base cA h U H :=
  ⟨hR.1, hR.2.1, va_K.moved hW.alike hR.2.2.1, fun n t N e => va_K.moved hW.alike (hR.2.2.2.1 n t N e), hR.2.2.2.2.warm hW⟩
theorem q_R.same {D : va_G} {b base : Nat} {cA : Nat → Nat} {h : q_H} {s U : State} {H : Heap} (e : s.vm = U.vm) (hR : q_R D b base cA h s H) : q_R D b base cA h U H :=
  ⟨hR.1, hR.2.1, va_K.moved (e ▸ Vm.Alike.refl s.vm) hR.2.2.1, fun n t N e2 => va_K.moved (e ▸ Vm.Alike.refl s.vm) (hR.2.2.2.1 n t N e2), hR.2.2.2.2.same e⟩
def q_Cx (i : Nat) (p : Program) (R : Room) (s : State) (m : MethodId) (args : Array Value) (meth : Method) (c : Code) : Prop :=
  p.tables.exec = Jvm.exec ∧ c.code = q_cB i ∧ meth.sig.returnType = q_mR i ∧ c.maxLocals = q_mL i ∧ s.vm.findClass (q_cn (q_mC i)) = some m.cls ∧ (∀ w ∈ q_tbl, w.before args s = true) ∧ meth.locks = false ∧ ((q_mY i).name = "<init>" → meth.name = "<init>") ∧ q_mF i ≤ R.frames ∧ q_mW i ≤ R.locals
def q_Sc (sc : Option (Nat × (Nat → Int32))) (b base : Nat) (s : State) : Prop := ∀ L xs, sc = some (L, xs) → va_X b L xs s s.heap ∧ b < s.heap.size ∧ b < base
/-- the place where a method ends with the answer r -/
def q_rt (i pc : Nat) (r : Option Value) : Prop := match r with
  | none => decode (q_cB i) pc = .ok (.return_, 1) ∧ q_mR i = none
  | some (.int v) => decode (q_cB i) pc = .ok (.ireturn, 1) ∧ ∃ ty, q_mR i = some ty ∧ narrow ty (.int v) = .int v
  | some (.long _) => decode (q_cB i) pc = .ok (.lreturn, 1) ∧ q_mR i = some .long
  | some (.ref _) => decode (q_cB i) pc = .ok (.areturn, 1) ∧ ∃ n, q_mR i = some (.object n)
  | some .null => decode (q_cB i) pc = .ok (.areturn, 1) ∧ ∃ n, q_mR i = some (.object n)
  | _ => False
def q_Ex (sc : Option (Nat × (Nat → Int32))) (i pc : Nat) (ls : List (Nat × Value)) (st : List Value) (h : q_H) (r : Option Value) (h2 : q_H) : Prop :=
  (h.1.length ≤ h2.1.length ∧ q_sl h ≤ q_sl h2) ∧
  ∀ (p : Program) (l : Launch) (e : Env) (R : Room) (s : State) (m : MethodId) (args : Array Value) (below : List Frame) (meth : Method) (c : Code) (D : va_G) (b base : Nat) (cA : Nat → Nat) (H : Heap) (locs : List Loc) (cells slots s0 : Nat) (lsA : Array Slot) (Q : State → Prop),
    q_Cx i p R s m args meth c → q_R D b base cA h s H → va_S (fun q => base ≤ q) s.heap H locs → base ≤ s.heap.size → q_Sc sc b base s →
    cells + s.heap.size = base + h.1.length → slots + s0 = q_sl h → base + h2.1.length ≤ R.cells + s.heap.size → q_sl h2 ≤ R.slots + s0 →
    lv_has lsA (q_mL i) (ls.map (q_tl (q_ad b base))) →
    (∀ (pcR : Nat) (lsR : Array Slot) (cA2 : Nat → Nat) (H2 : Heap) (locs2 : List Loc) (cells2 slots2 : Nat), q_rt i pcR r → q_R D b base cA2 h2 s H2 → va_S (fun q => base ≤ q) s.heap H2 locs2 → cells2 + s.heap.size = base + h2.1.length → slots2 + s0 = q_sl h2 →
      W p l e R s m args below meth c H2 locs2 cells2 slots2 Q (F0 m pcR lsR (r.toList.map (q_tv (q_ad b base))))) →
    W p l e R s m args below meth c H locs cells slots Q (F0 m pc lsA (st.map (q_tv (q_ad b base))))
def q_Ca (j : Nat) (as : List Value) (h : q_H) (r : Option Value) (h2 : q_H) : Prop :=
  (h.1.length ≤ h2.1.length ∧ q_sl h ≤ q_sl h2) ∧
  ∀ (l : Launch) (D : va_G) (b base : Nat) (cA : Nat → Nat),
    Met l (q_mY j) (q_wM j) { frames := q_mF j, cells := h2.1.length - h.1.length, slots := q_sl h2 - q_sl h, locals := q_mW j }
      (va_Pc (as.map (q_tv (q_ad b base))) (fun U => q_R D b base cA h U U.heap))
      (fun _ st o t => o = .returned (r.map (q_tv (q_ad b base))) ∧ (∃ cA2, q_R D b base cA2 h2 t t.heap) ∧ va_F (fun q => base ≤ q) st t)
      (h2.1.length - h.1.length) (q_sl h2 - q_sl h) (fun q => base ≤ q)
/-! simple steps -/
def q_lk (ls : List (Nat × Value)) (x : Nat) : Option Value := (ls.find? (fun q => q.1 == x)).map (fun q => q.2)
def q_st1 (x : Nat) (v : Value) (ls : List (Nat × Value)) : List (Nat × Value) := (x, v) :: ls.filter (fun q => !(q.1 == x) && !(q.1 + 1 == x && q.2.category == 2))
def q_st2 (x : Nat) (v : Value) (ls : List (Nat × Value)) : List (Nat × Value) := (x, v) :: ls.filter (fun q => !(q.1 == x) && (!(q.1 == x + 1) && !(q.1 + 1 == x && q.2.category == 2)))
theorem q_lk_at {ad : Nat → Nat} {ls : List (Nat × Value)} {x n : Nat} {v : Value} {lsA : Array Slot} (hl : lv_has lsA n (ls.map (q_tl ad))) (h : q_lk ls x = some v) : lsA[x]? = some (.val (q_tv ad v)) := by
  unfold q_lk at h
  cases hf : ls.find? (fun q => q.1 == x) with
  | none => rw [hf] at h; cases h
  | some q =>
    rw [hf] at h
    cases h
    have h1 := List.find?_some hf
    have h2 := List.mem_of_find?_eq_some hf
    have h3 := hl.2.2 (q_tl ad q) (List.mem_map_of_mem h2)
    simp only [beq_iff_eq] at h1
    rw [← h1]
    exact h3
theorem q_st1_map (ad : Nat → Nat) (x : Nat) (v : Value) (ls : List (Nat × Value)) : (x, q_tv ad v) :: (ls.map (q_tl ad)).filter (fun q => !(q.1 == x) && !(q.1 + 1 == x && q.2.category == 2)) = (q_st1 x v ls).map (q_tl ad) := by
  simp only [q_st1, List.map_cons, List.filter_map]
  congr 2
  apply List.filter_congr
  intro q _
  simp [q_tl, q_tv_cat]
theorem q_st2_map (ad : Nat → Nat) (x : Nat) (v : Value) (ls : List (Nat × Value)) : (x, q_tv ad v) :: (ls.map (q_tl ad)).filter (fun q => !(q.1 == x) && (!(q.1 == x + 1) && !(q.1 + 1 == x && q.2.category == 2))) = (q_st2 x v ls).map (q_tl ad) := by
  simp only [q_st2, List.map_cons, List.filter_map]
  congr 2
  apply List.filter_congr
  intro q _
  simp [q_tl, q_tv_cat]
/-- a step that leaves the heap -/
theorem q_go0 {sc : Option (Nat × (Nat → Int32))} {i pc pc2 : Nat} {ls ls2 : List (Nat × Value)} {st st2 : List Value} {h h2 : q_H} {r : Option Value}
    (hW : ∀ (p : Program) (l : Launch) (e : Env) (R : Room) (s : State) (m : MethodId) (args : Array Value) (below : List Frame) (meth : Method) (c : Code) (D : va_G) (b base : Nat) (cA : Nat → Nat) (H : Heap) (locs : List Loc) (cells slots : Nat) (lsA : Array Slot) (Q : State → Prop),
      q_Cx i p R s m args meth c → q_R D b base cA h s H → va_S (fun q => base ≤ q) s.heap H locs → q_Sc sc b base s → lv_has lsA (q_mL i) (ls.map (q_tl (q_ad b base))) →
      (∀ lsB, lv_has lsB (q_mL i) (ls2.map (q_tl (q_ad b base))) → W p l e R s m args below meth c H locs cells slots Q (F0 m pc2 lsB (st2.map (q_tv (q_ad b base))))) →
      W p l e R s m args below meth c H locs cells slots Q (F0 m pc lsA (st.map (q_tv (q_ad b base)))))
    (E : q_Ex sc i pc2 ls2 st2 h r h2) : q_Ex sc i pc ls st h r h2 := by
  refine ⟨E.1, ?_⟩
  intro p l e R s m args below meth c D b base cA H locs cells slots s0 lsA Q C hR hS hb hSc h1 h2 h3 h4 hl k
  exact hW p l e R s m args below meth c D b base cA H locs cells slots lsA Q C hR hS hSc hl (fun lsB hB => E.2 p l e R s m args below meth c D b base cA H locs cells slots s0 lsB Q C hR hS hb hSc h1 h2 h3 h4 hB k)
theorem q_W.sz {p : Program} {l : Launch} {e : Env} {R : Room} {s : State} {m : MethodId} {args : Array Value} {below : List Frame} {meth : Method} {c : Code} {H : Heap} {locs : List Loc} {cells slots : Nat} {Q : State → Prop} {g : JFrame} (k : H.size ≤ s.heap.size + cells → W p l e R s m args below meth c H locs cells slots Q g) : W p l e R s m args below meth c H locs cells slots Q g := by
  intro T hT X
  exact k (by rw [← hT]; exact X.heapSize) T hT X
/-- a step that writes one cell -/
theorem q_go1 {sc : Option (Nat × (Nat → Int32))} {i pc pc2 : Nat} {ls : List (Nat × Value)} {st st2 : List Value} {h h1 h2 : q_H} {r : Option Value} (hK : h1.1 = h.1)
    (hW : ∀ (p : Program) (l : Launch) (e : Env) (R : Room) (s : State) (m : MethodId) (args : Array Value) (below : List Frame) (meth : Method) (c : Code) (D : va_G) (b base : Nat) (cA : Nat → Nat) (H : Heap) (locs : List Loc) (cells slots : Nat) (lsA : Array Slot) (Q : State → Prop),
      q_Cx i p R s m args meth c → q_R D b base cA h s H → va_S (fun q => base ≤ q) H H locs → lv_has lsA (q_mL i) (ls.map (q_tl (q_ad b base))) →
      (∀ (H1 : Heap) (locs1 : List Loc), va_P D q_cl (q_ws (q_ad b base) cA h1) H1 → va_S (fun q => base ≤ q) H H1 locs1 → W p l e R s m args below meth c H1 locs1 cells slots Q (F0 m pc2 lsA (st2.map (q_tv (q_ad b base))))) →
      W p l e R s m args below meth c H locs cells slots Q (F0 m pc lsA (st.map (q_tv (q_ad b base)))))
    (E : q_Ex sc i pc2 ls st2 h1 r h2) : q_Ex sc i pc ls st h r h2 := by
  have hl1 : h1.1.length = h.1.length := by rw [hK]
  have hs1 : q_sl h1 = q_sl h := by unfold q_sl; rw [hK]
  refine ⟨by rw [← hl1, ← hs1]; exact E.1, ?_⟩
  intro p l e R s m args below meth c D b base cA H locs cells slots s0 lsA Q C hR hS hb hSc e1 e2 e3 e4 hl k
  refine hW p l e R s m args below meth c D b base cA H locs cells slots lsA Q C hR ⟨Nat.le_refl _, fun _ _ _ => rfl, hS.2.2⟩ hl ?_
  intro H1 locs1 hP1 hS1
  refine q_W.sz (fun hz => ?_)
  have hz2 : H1.size = base + h1.1.length := by
    have a1 := hS1.1
    have a2 := hR.2.1
    rw [hl1]
    omega
  refine E.2 p l e R s m args below meth c D b base cA H1 locs1 cells slots s0 lsA Q C ⟨hP1, hz2, hR.2.2.1, ?_, hR.2.2.2.2⟩ ⟨Nat.le_trans hS.1 hS1.1, fun q g1 g2 => (hS1.2.1 q (Nat.lt_of_lt_of_le g1 hS.1) g2).trans (hS.2.1 q g1 g2), hS1.2.2⟩ hb hSc (by rw [hl1]; exact e1) (by rw [hs1]; exact e2) e3 e4 hl k
  intro n t N hn
  refine hR.2.2.2.1 n t N ?_
  cases n with
  | zero => cases hn
  | succ n => exact (congrArg (fun z => z[n]?) hK).symm.trans hn
