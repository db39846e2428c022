/-! what stands when both objects are made: kinds and references; helpers of the walk (written by wip/whole/gen10.py) -/
def q_K0 : List q_Kd := [.inl 8, .inl 3, .inl 0, .inl 2, .inr (0, 128), .inr (0, 128), .inr (0, 128), .inr (0, 128), .inr (0, 128), .inl 1, .inl 1, .inl 1, .inr (0, 128), .inr (0, 128), .inr (0, 128), .inr (0, 16), .inl 6, .inr (2, 40), .inl 1, .inl 1, .inl 1, .inl 1, .inl 1, .inl 1, .inl 1, .inl 1, .inl 1, .inl 1, .inl 1, .inl 1, .inl 1, .inl 1, .inl 1, .inl 1, .inl 1, .inl 1, .inl 1, .inl 1, .inl 1, .inl 1, .inl 1, .inl 1, .inl 1, .inl 1, .inl 1, .inl 1, .inl 1, .inl 1, .inl 1, .inl 1, .inl 1, .inl 1, .inl 1, .inl 1, .inl 1, .inl 1, .inl 1, .inl 1, .inr (2, 60), .inl 1, .inl 1, .inl 1, .inl 1, .inl 1, .inl 1, .inl 1, .inl 1, .inl 1, .inl 1, .inl 1, .inl 1, .inl 1, .inl 1, .inl 1, .inl 1, .inl 1, .inl 1, .inl 1, .inl 1, .inl 1, .inl 1, .inl 1, .inl 1, .inl 1, .inl 1, .inl 1, .inl 1, .inl 1, .inl 1, .inl 1, .inl 1, .inl 1, .inl 1, .inl 1, .inl 1, .inl 1, .inl 1, .inl 1, .inl 1, .inl 1, .inl 1, .inl 1, .inl 1, .inl 1, .inl 1, .inl 1, .inl 1, .inl 1, .inl 1, .inl 1, .inl 1, .inl 1, .inl 1, .inl 1, .inl 1, .inl 1, .inl 1, .inl 1, .inl 1, .inr (0, 60), .inl 7, .inl 4, .inr (0, 200), .inr (0, 200), .inl 5, .inl 1, .inl 7, .inl 9, .inr (1, 120), .inr (1, 240), .inr (1, 4), .inr (0, 200), .inr (0, 200), .inr (0, 4000), .inr (0, 4000), .inr (0, 4000), .inr (0, 1000), .inr (0, 1000), .inr (0, 20), .inr (0, 1000), .inr (0, 1000), .inr (0, 1000)]
def q_R0 (n k : Nat) : Option Nat := match n with
  | 1 => (match k with
    | 0 => some 2
    | 1 => some 3
    | 2 => some 4
    | 3 => some 17
    | 4 => some 121
    | 5 => some 122
    | 6 => some 125
    | 7 => some 126
    | 8 => some 127
    | _ => none)
  | 2 => (match k with
    | 0 => some 3
    | 1 => some 13
    | 2 => some 14
    | 3 => some 15
    | 4 => some 16
    | _ => none)
  | 3 => (match k with
    | 0 => some 4
    | 1 => some 5
    | 2 => some 6
    | 3 => some 7
    | 4 => some 8
    | 5 => some 9
    | 6 => some 10
    | 7 => some 11
    | 8 => some 12
    | _ => none)
  | 17 => (match k with
    | 0 => some 18
    | 1 => some 59
    | 2 => some 120
    | _ => none)
  | 122 => (match k with
    | 0 => some 123
    | 1 => some 124
    | _ => none)
  | 128 => (match k with
    | 4 => some 129
    | 5 => some 130
    | 8 => some 131
    | 9 => some 132
    | 10 => some 133
    | 19 => some 134
    | 20 => some 135
    | 21 => some 136
    | 24 => some 137
    | 25 => some 138
    | 29 => some 139
    | 30 => some 140
    | 32 => some 141
    | 33 => some 142
    | _ => none)
  | 18 => if k < 40 then some (19 + k) else none
  | 59 => if k < 60 then some (60 + k) else none
  | _ => none
abbrev q_Z : Type := (Nat → Nat → Int32) × (Nat → Nat → Int64)
def q_hp (z : q_Z) : q_H := (q_K0, z.1, z.2, q_R0)
def q_kk (n : Nat) : Option q_Kd := match n with
  | 0 => none
  | k + 1 => q_K0[k]?
theorem q_kk18 : ∀ k, k < 40 → q_kk (19 + k) = some (.inl 1) := by decide +kernel
theorem q_kk59 : ∀ k, k < 60 → q_kk (60 + k) = some (.inl 1) := by decide +kernel
theorem q_rf18 {k o : Nat} (h : q_R0 18 k = some o) : q_kk o = some (.inl 1) := by
  have h1 : (if k < 40 then some (19 + k) else none) = some o := h
  by_cases c : k < 40
  · rw [if_pos c] at h1
    cases h1
    exact q_kk18 k c
  · rw [if_neg c] at h1
    cases h1
theorem q_rf59 {k o : Nat} (h : q_R0 59 k = some o) : q_kk o = some (.inl 1) := by
  have h1 : (if k < 60 then some (60 + k) else none) = some o := h
  by_cases c : k < 60
  · rw [if_pos c] at h1
    cases h1
    exact q_kk59 k c
  · rw [if_neg c] at h1
    cases h1
def q_fu : Nat := 2000000
def q_lp {σ : Type} (b : σ → Option (σ × Nat)) : Nat → σ → Option (σ × Nat)
  | 0, _ => none
  | n + 1, s => (b s).bind fun p => match p.2 with
    | 0 => q_lp b n p.1
    | t + 1 => some (p.1, t)
theorem q_lp_ok {σ : Type} {b : σ → Option (σ × Nat)} {P : σ → Prop} {X : Nat → σ → Prop} (hb : ∀ s s2 t, b s = some (s2, t) → (t = 0 → P s2) → (∀ u, t = u + 1 → X u s2) → P s) : ∀ {n : Nat} {s s2 : σ} {t : Nat}, q_lp b n s = some (s2, t) → X t s2 → P s := by
  intro n
  induction n with
  | zero => intro s s2 t h; cases h
  | succ n ih =>
    intro s s2 t h hx
    obtain ⟨⟨s1, u⟩, h1, h2⟩ := Option.bind_eq_some_iff.mp h
    cases u with
    | zero => exact hb s s1 0 h1 (fun _ => ih h2 hx) (fun u e => by cases e)
    | succ u =>
      have h3 : some (s1, u) = some (s2, t) := h2
      simp only [Option.some.injEq, Prod.mk.injEq] at h3
      obtain ⟨e1, e2⟩ := h3
      subst e1
      subst e2
      exact hb s s1 (u + 1) h1 (fun e => by cases e) (fun w e => by cases e; exact hx)
theorem q_pick {sc : Option (Nat × (Nat → Int32))} {i pc : Nat} {ls ls2 : List (Nat × Value)} {st : List Value} {h h2 : q_H} {r : Option Value} (ks : List Nat) (hl : lv_pick ls ks = ls2) (E : q_Ex sc i pc ls2 st h r h2) : q_Ex sc i pc ls st h r h2 := by
  refine q_go0 (fun p l e R s m args below meth c D b base cA H locs cells slots lsA Q C hR hS hSc hlv kk => kk lsA ?_) E
  refine lv_sub hlv ks ?_
  rw [← hl]
  simp only [lv_pick, List.map_filterMap]
  congr 1
  funext k
  simp
theorem q_blk2 {sc : Option (Nat × (Nat → Int32))} {i : Nat} {r : Option Value} {hh : q_H} {pc pc2 : Nat} {ls ls2 : List (Nat × Value)} {st st2 : List Value} {h h2 : q_H} {ob : Prop} (is : List q_I) (h1 : q_okL i pc is = true) (h3 : q_end pc is = pc2) (h4 : q_run is ls st h = some (ls2, st2, h2, ob)) (h5 : ob) (E : q_Ex sc i pc2 ls2 st2 h2 r hh) : q_Ex sc i pc ls st h r hh := by
  subst h3
  exact q_blk is h1 h4 h5 E
theorem q_rret {sc : Option (Nat × (Nat → Int32))} {i pc : Nat} {ls : List (Nat × Value)} {h : q_H} {v : Option Nat} (n : String) (hr : q_mR i = some (.object n)) (hd : decode (q_cB i) pc = .ok (.areturn, 1)) : q_Ex sc i pc ls [va_rf v] h (some (va_rf v)) h := by
  cases v with
  | none => exact q_nret n hr hd
  | some a => exact q_aret n hr hd
theorem q_bo_n {v : Int32} (h : v = 0 ∨ v = 1) : narrow .boolean (.int v) = .int v := by
  rcases h with rfl | rfl <;> rfl
theorem q_neI {x y : Int32} (h : ¬ x = y) : x.toInt ≠ y.toInt := fun e => h (Int32.toInt_inj.mp e)
theorem q_cV1 {sc : Option (Nat × (Nat → Int32))} {i pc : Nat} {ls : List (Nat × Value)} {h h1 h2 : q_H} {r : Option Value} {v : Value} {idx : Nat} (st0 : List Value) (j n ci : Nat) (as st : List Value) (he : st0 = as.reverse ++ .ref n :: st)
    (hc : q_cr (q_mC i) idx j 0 = true) (hrm : q_rm i j = true) (hn : as.length = q_mN j) (hct : q_ct st ≤ 8) (hk : q_kd h n = some (.inl ci)) (hci : ci < 10) (hcn : q_cn ci = (q_mY j).cls)
    (hd : decode (q_cB i) pc = .ok (.invokevirtual idx, 3)) (hCa : q_Ca j (.ref n :: as) h (some v) h1) (E : q_Ex sc i (pc + 3) ls (v :: st) h1 r h2) : q_Ex sc i pc ls st0 h r h2 := by
  subst he
  exact q_callV j n ci as hc hrm hn hct hk hci hcn hd hCa E
theorem q_cV0 {sc : Option (Nat × (Nat → Int32))} {i pc : Nat} {ls : List (Nat × Value)} {h h1 h2 : q_H} {r : Option Value} {idx : Nat} (st0 : List Value) (j n ci : Nat) (as st : List Value) (he : st0 = as.reverse ++ .ref n :: st)
    (hc : q_cr (q_mC i) idx j 0 = true) (hrm : q_rm i j = true) (hn : as.length = q_mN j) (hct : q_ct st ≤ 8) (hk : q_kd h n = some (.inl ci)) (hci : ci < 10) (hcn : q_cn ci = (q_mY j).cls)
    (hd : decode (q_cB i) pc = .ok (.invokevirtual idx, 3)) (hCa : q_Ca j (.ref n :: as) h none h1) (E : q_Ex sc i (pc + 3) ls st h1 r h2) : q_Ex sc i pc ls st0 h r h2 := by
  subst he
  exact q_callV j n ci as hc hrm hn hct hk hci hcn hd hCa E
theorem q_cS1 {sc : Option (Nat × (Nat → Int32))} {i pc : Nat} {ls : List (Nat × Value)} {h h1 h2 : q_H} {r : Option Value} {v : Value} {idx : Nat} (st0 : List Value) (j : Nat) (as st : List Value) (he : st0 = as.reverse ++ st)
    (hc : q_cr (q_mC i) idx j 1 = true) (hrm : q_rm i j = true) (hn : as.length = q_mN j) (hct : q_ct st ≤ 8)
    (hd : decode (q_cB i) pc = .ok (.invokestatic idx, 3)) (hCa : q_Ca j as h (some v) h1) (E : q_Ex sc i (pc + 3) ls (v :: st) h1 r h2) : q_Ex sc i pc ls st0 h r h2 := by
  subst he
  exact q_callS j as hc hrm hn hct hd hCa E
