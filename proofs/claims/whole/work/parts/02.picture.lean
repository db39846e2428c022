/-! the words that every method may use, the table of methods, and a heap as one picture: kinds, ints, longs, references -/
def q_tbl : List Cond := lw_tbl.filter goodWord
theorem q_tbl_of {w : Cond} (i : Nat) (h : lw_tbl[i]? = some w) (hg : goodWord w = true) : w ∈ q_tbl := List.mem_filter.mpr ⟨List.mem_of_getElem? h, hg⟩
def q_m (j : Nat) : q_MT := q_mt.getD j (yL_law, cL_law, 4, some .boolean, 12, 1, 0, 0, 0, 0)
def q_mY (j : Nat) : MethodName := (q_m j).1
def q_cB (j : Nat) : ByteArray := (q_m j).2.1
def q_mL (j : Nat) : Nat := (q_m j).2.2.1
def q_mR (j : Nat) : Option FieldType := (q_m j).2.2.2.1
def q_mC (j : Nat) : Nat := (q_m j).2.2.2.2.1
def q_mN (j : Nat) : Nat := (q_m j).2.2.2.2.2.1
def q_mF (j : Nat) : Nat := (q_m j).2.2.2.2.2.2.1
def q_mW (j : Nat) : Nat := (q_m j).2.2.2.2.2.2.2.1
def q_mP (j : Nat) : Nat := (q_m j).2.2.2.2.2.2.2.2.1
def q_mI (j : Nat) : Nat := (q_m j).2.2.2.2.2.2.2.2.2
def q_wM (j : Nat) : List Cond := .code (q_mY j) (q_cB j) (q_mL j) (q_mR j) :: q_tbl
theorem q_code_at {j : Nat} (h : j < 163) : lw_tbl[q_mP j]? = some (.code (q_mY j) (q_cB j) (q_mL j) (q_mR j)) := q_codes j h
theorem q_code_good (y : MethodName) (c : ByteArray) (n : Nat) (r : Option FieldType) : goodWord (.code y c n r) = true := rfl
def q_mok (j : Nat) : Bool := decide (lw_tbl[q_mI j]? = some (.initialized (q_mY j).cls)) && goodWord (.initialized (q_mY j).cls) && decide (q_cn (q_mC j) = (q_mY j).cls) && plainFor (q_mY j) && decide ((q_mY j).cls ≠ "java/lang/invoke/MethodHandle") && decide ((q_mY j).cls ≠ "java/lang/invoke/VarHandle") && decide ((parseMethodDescriptor (q_mY j).desc).map (fun d => d.parameters.length) = some (q_mN j))
theorem q_mt_ok : (List.range 163).all q_mok = true := by decide +kernel
theorem q_mt_at {j : Nat} (h : j < 163) : (Cond.code (q_mY j) (q_cB j) (q_mL j) (q_mR j) ∈ q_tbl) ∧ (Cond.initialized (q_mY j).cls ∈ q_tbl) ∧ q_cn (q_mC j) = (q_mY j).cls ∧ plainFor (q_mY j) = true ∧ (q_mY j).cls ≠ "java/lang/invoke/MethodHandle" ∧ (q_mY j).cls ≠ "java/lang/invoke/VarHandle" ∧ (parseMethodDescriptor (q_mY j).desc).map (fun d => d.parameters.length) = some (q_mN j) := by
  have h1 := List.all_eq_true.mp q_mt_ok j (List.mem_range.mpr h)
  simp only [q_mok, Bool.and_eq_true, decide_eq_true_eq] at h1
  obtain ⟨⟨⟨⟨⟨⟨a3, a4⟩, a5⟩, a6⟩, a7⟩, a8⟩, a9⟩ := h1
  exact ⟨q_tbl_of _ (q_code_at h) (q_code_good _ _ _ _), q_tbl_of _ a3 a4, a5, a6, a7, a8, a9⟩
theorem q_good (j : Nat) (h : j < 163) : GoodIn q_tbl (q_wM j) := by
  intro w hw
  have hm : w ∈ q_tbl := by
    rcases List.mem_cons.mp hw with e | e
    · rw [e]; exact (q_mt_at h).1
    · exact e
  exact ⟨hm, good_of_word (List.mem_filter.mp hm).2⟩
/-! fields -/
def q_tt (ci : Nat) : u_T := (q_cl.getD ci ("", TX0, 0)).2.1
def q_ty (ci : Nat) : Nat → FieldType := match ci with
  | 0 => tyX0
  | 1 => tyX1
  | 2 => tyX2
  | 3 => tyX3
  | 4 => tyX4
  | 5 => tyX5
  | 6 => tyX6
  | 7 => tyX8
  | 8 => tyX9
  | _ => tyX10
def q_clok (ci : Nat) : Bool := (u_ws (q_cn ci) (q_tt ci) (q_nf ci)).all (fun w => decide (w ∈ lw_tbl) && goodWord w) && decide (q_cl[ci]? = none) == false
theorem q_w0 : ∀ w ∈ u_ws RX0 TX0 12, w ∈ q_tbl := by decide +kernel
theorem q_w1 : ∀ w ∈ u_ws RX1 TX1 3, w ∈ q_tbl := by decide +kernel
theorem q_w2 : ∀ w ∈ u_ws RX2 TX2 2, w ∈ q_tbl := by decide +kernel
theorem q_w3 : ∀ w ∈ u_ws RX3 TX3 8, w ∈ q_tbl := by decide +kernel
theorem q_w4 : ∀ w ∈ u_ws RX4 TX4 3, w ∈ q_tbl := by decide +kernel
theorem q_w5 : ∀ w ∈ u_ws RX5 TX5 10, w ∈ q_tbl := by decide +kernel
theorem q_w6 : ∀ w ∈ u_ws RX6 TX6 6, w ∈ q_tbl := by decide +kernel
theorem q_w8 : ∀ w ∈ u_ws RX8 TX8 4, w ∈ q_tbl := by decide +kernel
theorem q_w9 : ∀ w ∈ u_ws RX9 TX9 10, w ∈ q_tbl := by decide +kernel
theorem q_w10 : ∀ w ∈ u_ws RX10 TX10 44, w ∈ q_tbl := by decide +kernel
def q_fts (ci k : Nat) : Bool := match q_fk ci k, q_ty ci k with
  | 0, .int => true
  | 0, .boolean => true
  | 1, .long => true
  | 2, .object _ => true
  | 2, .array _ => true
  | _, _ => false
theorem q_fts_ok : (List.range 10).all (fun ci => (List.range (q_nf ci)).all (fun k => q_fts ci k)) = true := by decide +kernel
def q_CF (ci : Nat) (C : String) (T : u_T) (N : Nat) : Prop := q_cl[ci]? = some (C, T, N) ∧ q_tt ci = T ∧ q_cn ci = C ∧ N = q_nf ci ∧ (∀ w ∈ u_ws C T N, w ∈ q_tbl) ∧ (∀ k, k < N → parseFieldDescriptor (T k).2.2.1 = some (q_ty ci k)) ∧ (∀ a, a < N → ∀ b, b < N → a ≠ b → (T a).2.1 ≠ (T b).2.1)
theorem q_cf : ∀ ci, ci < 10 → ∃ C T N, q_CF ci C T N
  | 0, _ => ⟨_, _, _, rfl, rfl, rfl, rfl, q_w0, tyX0_ok, nmX0⟩
  | 1, _ => ⟨_, _, _, rfl, rfl, rfl, rfl, q_w1, tyX1_ok, nmX1⟩
  | 2, _ => ⟨_, _, _, rfl, rfl, rfl, rfl, q_w2, tyX2_ok, nmX2⟩
  | 3, _ => ⟨_, _, _, rfl, rfl, rfl, rfl, q_w3, tyX3_ok, nmX3⟩
  | 4, _ => ⟨_, _, _, rfl, rfl, rfl, rfl, q_w4, tyX4_ok, nmX4⟩
  | 5, _ => ⟨_, _, _, rfl, rfl, rfl, rfl, q_w5, tyX5_ok, nmX5⟩
  | 6, _ => ⟨_, _, _, rfl, rfl, rfl, rfl, q_w6, tyX6_ok, nmX6⟩
  | 7, _ => ⟨_, _, _, rfl, rfl, rfl, rfl, q_w8, tyX8_ok, nmX8⟩
  | 8, _ => ⟨_, _, _, rfl, rfl, rfl, rfl, q_w9, tyX9_ok, nmX9⟩
  | 9, _ => ⟨_, _, _, rfl, rfl, rfl, rfl, q_w10, tyX10_ok, nmX10⟩
  | n + 10, h => absurd h (by omega)
def q_fdok (r : Nat × Nat × Nat × Nat × Nat) : Bool := decide (lw_tbl[r.2.2.2.2]? = some (.fieldLink (q_cn r.1) r.2.1 (q_tt r.2.2.1 r.2.2.2.1).1 (q_tt r.2.2.1 r.2.2.2.1).2.1 (q_tt r.2.2.1 r.2.2.2.1).2.2.1)) && goodWord (.fieldLink (q_cn r.1) r.2.1 (q_tt r.2.2.1 r.2.2.2.1).1 (q_tt r.2.2.1 r.2.2.2.1).2.1 (q_tt r.2.2.1 r.2.2.2.1).2.2.1) && decide (r.2.2.1 < 10) && decide (r.2.2.2.1 < q_nf r.2.2.1)
theorem q_fdl_ok : q_fdl.all q_fdok = true := by decide +kernel
def q_fd (c idx ci k : Nat) : Bool := q_fdl.any (fun r => r.1 == c && r.2.1 == idx && r.2.2.1 == ci && r.2.2.2.1 == k)
theorem q_fd_at {c idx ci k : Nat} (h : q_fd c idx ci k = true) : (Cond.fieldLink (q_cn c) idx (q_tt ci k).1 (q_tt ci k).2.1 (q_tt ci k).2.2.1 ∈ q_tbl) ∧ ci < 10 ∧ k < q_nf ci := by
  obtain ⟨r, hr, h2⟩ := List.any_eq_true.mp h
  simp only [Bool.and_eq_true, beq_iff_eq] at h2
  obtain ⟨⟨⟨e1, e2⟩, e3⟩, e4⟩ := h2
  have h1 := List.all_eq_true.mp q_fdl_ok r hr
  simp only [q_fdok, Bool.and_eq_true, decide_eq_true_eq] at h1
  obtain ⟨⟨⟨a1, a2⟩, a3⟩, a4⟩ := h1
  rw [e1, e2, e3, e4] at a1 a2
  rw [e3] at a3 a4
  rw [e4] at a4
  exact ⟨q_tbl_of _ a1 a2, a3, a4⟩
/-! the picture -/
abbrev q_Kd : Type := Nat ⊕ (Nat × Nat)
abbrev q_H : Type := List q_Kd × (Nat → Nat → Int32) × (Nat → Nat → Int64) × (Nat → Nat → Option Nat)
def q_kd (h : q_H) (n : Nat) : Option q_Kd := match n with
  | 0 => none
  | k + 1 => h.1[k]?
def q_tv (ad : Nat → Nat) (v : Value) : Value := match v with
  | .ref n => .ref (ad n)
  | w => w
def q_tl (ad : Nat → Nat) (q : Nat × Value) : Nat × Value := (q.1, q_tv ad q.2)
def q_ad (b base : Nat) (n : Nat) : Nat := match n with
  | 0 => b
  | k + 1 => base + k
def q_av (h : q_H) (ci n k : Nat) : Value := match q_fk ci k with
  | 0 => .int (h.2.1 n k)
  | 1 => .long (h.2.2.1 n k)
  | _ => va_rf (h.2.2.2 n k)
def q_fv (ad : Nat → Nat) (h : q_H) (ci n k : Nat) : Value := match q_fk ci k with
  | 0 => .int (h.2.1 n k)
  | 1 => .long (h.2.2.1 n k)
  | _ => va_rf ((h.2.2.2 n k).map ad)
def q_en (ad cA : Nat → Nat) (h : q_H) (n : Nat) : Nat × va_E := (ad n, match q_kd h n with
  | some (.inl ci) => .inr (ci, (List.range (q_nf ci)).map (q_fv ad h ci n))
  | some (.inr (0, N)) => .inl (cA n, N, .inl (h.2.1 n))
  | some (.inr (1, N)) => .inl (cA n, N, .inr (.inl (h.2.2.1 n)))
  | some (.inr (_, N)) => .inl (cA n, N, .inr (.inr (.inr (.inr (fun j => (h.2.2.2 n j).map ad)))))
  | none => .inr (0, []))
def q_ws (ad cA : Nat → Nat) (h : q_H) : va_W := (List.range h.1.length).map (fun k => q_en ad cA h (k + 1))
def q_sz (x : q_Kd) : Nat := match x with
  | .inl ci => q_nf ci
  | .inr (_, N) => N
def q_sl (h : q_H) : Nat := (h.1.map q_sz).sum
def q_et (t : Nat) : FieldType := match t with
  | 0 => .int
  | 1 => .long
  | _ => .object "RootForms$Form"
def q_u2 {α : Type} (f : Nat → Nat → α) (o k : Nat) (v : α) : Nat → Nat → α := fun a c => if a = o then (if c = k then v else f a c) else f a c
theorem q_tv_rf (ad : Nat → Nat) (r : Option Nat) : q_tv ad (va_rf r) = va_rf (r.map ad) := by cases r <;> rfl
theorem q_tv_av (ad : Nat → Nat) (h : q_H) (ci n k : Nat) : q_tv ad (q_av h ci n k) = q_fv ad h ci n k := by
  unfold q_av q_fv
  split <;> first | rfl | exact q_tv_rf ad _
theorem q_tv_cat (ad : Nat → Nat) (v : Value) : (q_tv ad v).category = v.category := by cases v <;> rfl
theorem q_ws_get {ad cA : Nat → Nat} {h : q_H} {n : Nat} {x : q_Kd} (hn : q_kd h n = some x) : (q_ws ad cA h)[n - 1]? = some (q_en ad cA h n) := by
  cases n with
  | zero => cases hn
  | succ k =>
    have hk : k < h.1.length := (List.getElem?_eq_some_iff.mp hn).1
    simp [q_ws, hk]
theorem q_ws_set {ad cA : Nat → Nat} {h h2 : q_H} {n : Nat} (hK : h2.1 = h.1) (hne : ∀ m, m ≠ n → q_en ad cA h2 m = q_en ad cA h m) (h0 : n ≠ 0) : (q_ws ad cA h).set (n - 1) (q_en ad cA h2 n) = q_ws ad cA h2 := by
  apply List.ext_getElem?
  intro j
  unfold q_ws
  rw [List.getElem?_set, hK]
  by_cases e : n - 1 = j
  · subst e
    have e2 : n - 1 + 1 = n := by omega
    by_cases hl : n - 1 < h.1.length
    · simp [hl, e2]
    · simp [hl]
  · rw [if_neg e]
    simp only [List.getElem?_map]
    by_cases hl : j < h.1.length
    · rw [List.getElem?_range hl]
      simp only [Option.map_some]
      rw [hne (j + 1) (by omega)]
    · simp [hl]
theorem q_ws_len (ad cA : Nat → Nat) (h : q_H) : (q_ws ad cA h).length = h.1.length := by simp [q_ws]
theorem q_ws_at {ad cA : Nat → Nat} {h : q_H} {i : Nat} {x : Nat × va_E} (hx : (q_ws ad cA h)[i]? = some x) : i < h.1.length ∧ x = q_en ad cA h (i + 1) := by
  have hl : i < (q_ws ad cA h).length := (List.getElem?_eq_some_iff.mp hx).1
  rw [q_ws_len] at hl
  refine ⟨hl, ?_⟩
  simp [q_ws, hl] at hx
  exact hx.symm
theorem q_D (b base : Nat) (cA : Nat → Nat) (h : q_H) : va_D (fun q => base ≤ q) (q_ws (q_ad b base) cA h) := by
  refine ⟨fun i j p q hp hq e => ?_, fun k q hq => ?_⟩
  · obtain ⟨-, rfl⟩ := q_ws_at hp
    obtain ⟨-, rfl⟩ := q_ws_at hq
    simp only [q_en, q_ad] at e
    omega
  · obtain ⟨-, rfl⟩ := q_ws_at hq
    simp only [q_en, q_ad]
    omega
