/-! the LEAST forms without a common divisor, by a, then b -/
theorem q_lt_irr {f : q_f3} : ¬ q_lt f f := by unfold q_lt; omega
theorem q_lt_asymm {f g : q_f3} (h : q_lt f g) : ¬ q_lt g f := by unfold q_lt at *; omega
theorem q_lt_trans {f g h : q_f3} (h1 : q_lt f g) (h2 : q_lt g h) : q_lt f h := by unfold q_lt at *; omega
theorem q_lt_tri {d : Int} {f g : q_f3} (hf : q_F3 d f) (hg : q_F3 d g) : f = g ∨ q_lt f g ∨ q_lt g f := by
  by_cases c : f.1 = g.1 ∧ f.2.1 = g.2.1
  · exact Or.inl (q_ab_eq hf hg c.1 c.2)
  · unfold q_lt
    omega
theorem q_isT_uni {d R : Int} {n m : Nat} {T U : Nat → q_f3} (hT : q_isT d R n T) (hU : q_isT d R m U) : n = m ∧ ∀ i, i < n → T i = U i := by
  have key : ∀ i, i < n → i < m → T i = U i := by
    intro i
    induction i using Nat.strongRecOn with
    | ind i ih =>
      intro hn hm
      obtain ⟨k, k1, k2⟩ := hU.2.2 (T i) (hT.2.1 i hn).1 (hT.2.1 i hn).2
      obtain ⟨l, l1, l2⟩ := hT.2.2 (U i) (hU.2.1 i hm).1 (hU.2.1 i hm).2
      rcases Nat.lt_trichotomy k i with c | c | c
      · have e := ih k c (by omega) (by omega)
        rw [k2] at e
        have := hT.1 k i c hn
        rw [e] at this
        exact absurd this q_lt_irr
      · rw [← k2, c]
      · rcases Nat.lt_trichotomy l i with c2 | c2 | c2
        · have e := ih l c2 (by omega) (by omega)
          rw [l2] at e
          have := hU.1 l i c2 hm
          rw [← e] at this
          exact absurd this q_lt_irr
        · rw [← l2, c2]
        · have a1 := hU.1 i k c k1
          have a2 := hT.1 i l c2 l1
          rw [k2] at a1
          rw [l2] at a2
          exact absurd a2 (q_lt_asymm a1)
  have hnm : n = m := by
    rcases Nat.lt_trichotomy n m with c | c | c
    · obtain ⟨l, l1, l2⟩ := hT.2.2 (U n) (hU.2.1 n c).1 (hU.2.1 n c).2
      have := hU.1 l n l1 c
      rw [← key l l1 (by omega), l2] at this
      exact absurd this q_lt_irr
    · exact c
    · obtain ⟨l, l1, l2⟩ := hU.2.2 (T m) (hT.2.1 m c).1 (hT.2.1 m c).2
      have := hT.1 l m l1 c
      rw [key l (by omega) l1, l2] at this
      exact absurd this q_lt_irr
  exact ⟨hnm, fun i hi => key i hi (by omega)⟩
theorem q_pg {β : Type} [DecidableEq β] : ∀ (n : Nat) (g : Nat → β) (E : List β), (∀ i j, i < j → j < n → g i ≠ g j) → (∀ i, i < n → g i ∈ E) → n ≤ E.length
  | 0, _, _, _, _ => Nat.zero_le _
  | n + 1, g, E, h1, h2 => by
    have m := h2 n (by omega)
    have := q_pg n g (E.erase (g n)) (fun i j a b => h1 i j a (by omega)) (fun i hi => (List.mem_erase_of_ne (h1 i n hi (by omega))).mpr (h2 i (by omega)))
    rw [List.length_erase_of_mem m] at this
    have := List.length_pos_of_mem m
    omega
/-! what holds them all, and how many that are, for the kernel -/
noncomputable def q_fc {α : Type} (e : Nat) (body : Nat → α) : α := Nat.rec (body 0) (fun k _ => body (Nat.succ k)) e
theorem q_fc_eq {α : Type} (e : Nat) (body : Nat → α) : q_fc e body = body e := by
  cases e with
  | zero => rfl
  | succ e => rfl
noncomputable def q_c1 (n a k : Nat) : Nat := Nat.rec 0 (fun k ih => bif Nat.beq (Nat.mod n (Nat.add a k)) 0 then Nat.succ ih else ih) k
noncomputable def q_c2 (d R k : Nat) : Nat := Nat.rec 0 (fun j ih => q_fc (Nat.sub (Nat.add (Nat.mul 2 j) 2) (Nat.mod d 2)) (fun b => q_fc (Nat.div (Nat.sub d (Nat.mul b b)) 4) (fun n => q_fc (Nat.succ (Nat.div (Nat.sub R b) 2)) (fun a => Nat.add (q_c1 n a b) ih)))) k
noncomputable def q_c3 (R d0 k : Nat) : Bool := Nat.rec true (fun j ih => q_fc (Nat.add d0 j) (fun d => bif Nat.ble 2 (Nat.mod d 4) then ih else bif Nat.ble (q_c2 d R (Nat.div (Nat.add R (Nat.mod d 2)) 2)) 128 then ih else false)) k
def q_El1 (n a b : Nat) : Nat → List (Nat × Nat)
  | 0 => []
  | k + 1 => bif Nat.beq (Nat.mod n (Nat.add a k)) 0 then (a + k, b) :: q_El1 n a b k else q_El1 n a b k
def q_Eb (d j : Nat) : Nat := 2 * j + 2 - d % 2
def q_El2 (d R : Nat) : Nat → List (Nat × Nat)
  | 0 => []
  | j + 1 => q_El1 ((d - q_Eb d j * q_Eb d j) / 4) ((R - q_Eb d j) / 2 + 1) (q_Eb d j) (q_Eb d j) ++ q_El2 d R j
theorem q_El1_len (n a b : Nat) : ∀ k, (q_El1 n a b k).length = q_c1 n a k
  | 0 => rfl
  | k + 1 => by
    have e : q_c1 n a (k + 1) = bif Nat.beq (Nat.mod n (Nat.add a k)) 0 then Nat.succ (q_c1 n a k) else q_c1 n a k := rfl
    have e2 : q_El1 n a b (k + 1) = bif Nat.beq (Nat.mod n (Nat.add a k)) 0 then (a + k, b) :: q_El1 n a b k else q_El1 n a b k := rfl
    rw [e, e2, ← q_El1_len n a b k]
    cases Nat.beq (Nat.mod n (Nat.add a k)) 0 with
    | true => rfl
    | false => rfl
theorem q_El2_len (d R : Nat) : ∀ k, (q_El2 d R k).length = q_c2 d R k
  | 0 => rfl
  | j + 1 => by
    have e : q_c2 d R (j + 1) = q_fc (q_Eb d j) (fun b => q_fc ((d - b * b) / 4) (fun n => q_fc ((R - b) / 2 + 1) (fun a => q_c1 n a b + q_c2 d R j))) := rfl
    rw [e, q_fc_eq, q_fc_eq, q_fc_eq, ← q_El2_len d R j, ← q_El1_len _ _ (q_Eb d j)]
    have e2 : q_El2 d R (j + 1) = q_El1 ((d - q_Eb d j * q_Eb d j) / 4) ((R - q_Eb d j) / 2 + 1) (q_Eb d j) (q_Eb d j) ++ q_El2 d R j := rfl
    rw [e2, List.length_append]
theorem q_El1_mem {n a b : Nat} {i : Nat} (h : n % (a + i) = 0) : ∀ k, i < k → (a + i, b) ∈ q_El1 n a b k
  | 0, h0 => by omega
  | k + 1, h0 => by
    unfold q_El1
    by_cases c : i = k
    · subst c
      have e : Nat.beq (Nat.mod n (Nat.add a i)) 0 = true := by rw [Nat.beq_eq]; exact h
      rw [e]
      exact List.mem_cons_self
    · have := q_El1_mem (b := b) h k (by omega)
      cases Nat.beq (Nat.mod n (Nat.add a k)) 0 with
      | true => exact List.mem_cons_of_mem _ this
      | false => exact this
theorem q_El2_mem {d R j : Nat} {x : Nat × Nat} (h : x ∈ q_El1 ((d - q_Eb d j * q_Eb d j) / 4) ((R - q_Eb d j) / 2 + 1) (q_Eb d j) (q_Eb d j)) : ∀ k, j < k → x ∈ q_El2 d R k
  | 0, h0 => by omega
  | k + 1, h0 => by
    unfold q_El2
    by_cases c : j = k
    · subst c
      exact List.mem_append_left _ h
    · exact List.mem_append_right _ (q_El2_mem h k (by omega))
theorem q_c3_spec {R d0 : Nat} : ∀ k, q_c3 R d0 k = true → ∀ j, j < k → (d0 + j) % 4 ≤ 1 → q_c2 (d0 + j) R ((R + (d0 + j) % 2) / 2) ≤ 128
  | 0, _, j, h, _ => by omega
  | k + 1, h, j, hj, h4 => by
    have e : q_c3 R d0 (k + 1) = q_fc (d0 + k) (fun d => bif Nat.ble 2 (d % 4) then q_c3 R d0 k else bif Nat.ble (q_c2 d R ((R + d % 2) / 2)) 128 then q_c3 R d0 k else false) := rfl
    rw [e, q_fc_eq] at h
    by_cases c : j = k
    · subst c
      have e2 : Nat.ble 2 ((d0 + j) % 4) = false := by
        cases q : Nat.ble 2 ((d0 + j) % 4) with
        | true => have := Nat.le_of_ble_eq_true q; omega
        | false => rfl
      rw [e2] at h
      cases q : Nat.ble (q_c2 (d0 + j) R ((R + (d0 + j) % 2) / 2)) 128 with
      | true => exact Nat.le_of_ble_eq_true q
      | false => rw [q] at h; exact absurd h Bool.false_ne_true
    · refine q_c3_spec k ?_ j (by omega) h4
      cases q : Nat.ble 2 ((d0 + k) % 4) with
      | true => rw [q] at h; exact h
      | false =>
        rw [q] at h
        cases q2 : Nat.ble (q_c2 (d0 + k) R ((R + (d0 + k) % 2) / 2)) 128 with
        | true => rw [q2] at h; exact h
        | false => rw [q2] at h; exact absurd h Bool.false_ne_true
/-! D below 0 -/
noncomputable def q_e1 (m a p k : Nat) : Nat := Nat.rec 0 (fun j ih => q_fc (Nat.add p (Nat.mul 2 j)) (fun t => q_fc (Nat.add (Nat.mul t t) m) (fun s => bif Nat.beq (Nat.mod s (Nat.mul 4 a)) 0 then bif Nat.ble (Nat.mul (Nat.mul 4 a) a) s then Nat.succ (Nat.succ ih) else ih else ih))) k
noncomputable def q_e2 (m k : Nat) : Nat := Nat.rec 0 (fun a ih => bif Nat.ble (Nat.mul 3 (Nat.mul (Nat.succ a) (Nat.succ a))) m then Nat.add (q_e1 m (Nat.succ a) (Nat.mod m 2) (Nat.div (Nat.sub (Nat.add a 3) (Nat.mod m 2)) 2)) ih else ih) k
noncomputable def q_e3 (m0 k : Nat) : Bool := Nat.rec true (fun j ih => q_fc (Nat.add m0 j) (fun m => bif Nat.ble (q_e2 m 36) 128 then ih else false)) k
def q_Fl1 (m a p : Nat) : Nat → List (Nat × Nat × Bool)
  | 0 => []
  | j + 1 => bif Nat.beq (((p + 2 * j) * (p + 2 * j) + m) % (4 * a)) 0 then bif Nat.ble (4 * a * a) ((p + 2 * j) * (p + 2 * j) + m) then (a, p + 2 * j, false) :: (a, p + 2 * j, true) :: q_Fl1 m a p j else q_Fl1 m a p j else q_Fl1 m a p j
def q_Fl2 (m : Nat) : Nat → List (Nat × Nat × Bool)
  | 0 => []
  | a + 1 => bif Nat.ble (3 * ((a + 1) * (a + 1))) m then q_Fl1 m (a + 1) (m % 2) ((a + 3 - m % 2) / 2) ++ q_Fl2 m a else q_Fl2 m a
theorem q_Fl1_len (m a p : Nat) : ∀ k, (q_Fl1 m a p k).length = q_e1 m a p k
  | 0 => rfl
  | j + 1 => by
    have e : q_e1 m a p (j + 1) = q_fc (p + 2 * j) (fun t => q_fc (t * t + m) (fun s => bif Nat.beq (s % (4 * a)) 0 then bif Nat.ble (4 * a * a) s then Nat.succ (Nat.succ (q_e1 m a p j)) else q_e1 m a p j else q_e1 m a p j)) := rfl
    have e2 : q_Fl1 m a p (j + 1) = bif Nat.beq (((p + 2 * j) * (p + 2 * j) + m) % (4 * a)) 0 then bif Nat.ble (4 * a * a) ((p + 2 * j) * (p + 2 * j) + m) then (a, p + 2 * j, false) :: (a, p + 2 * j, true) :: q_Fl1 m a p j else q_Fl1 m a p j else q_Fl1 m a p j := rfl
    rw [e, e2, q_fc_eq, q_fc_eq, ← q_Fl1_len m a p j]
    cases Nat.beq (((p + 2 * j) * (p + 2 * j) + m) % (4 * a)) 0 with
    | true =>
      cases Nat.ble (4 * a * a) ((p + 2 * j) * (p + 2 * j) + m) with
      | true => rfl
      | false => rfl
    | false => rfl
theorem q_Fl2_len (m : Nat) : ∀ k, (q_Fl2 m k).length = q_e2 m k
  | 0 => rfl
  | a + 1 => by
    have e : q_e2 m (a + 1) = bif Nat.ble (3 * ((a + 1) * (a + 1))) m then q_e1 m (a + 1) (m % 2) ((a + 3 - m % 2) / 2) + q_e2 m a else q_e2 m a := rfl
    have e2 : q_Fl2 m (a + 1) = bif Nat.ble (3 * ((a + 1) * (a + 1))) m then q_Fl1 m (a + 1) (m % 2) ((a + 3 - m % 2) / 2) ++ q_Fl2 m a else q_Fl2 m a := rfl
    rw [e, e2, ← q_Fl2_len m a, ← q_Fl1_len]
    cases Nat.ble (3 * ((a + 1) * (a + 1))) m with
    | true => exact List.length_append
    | false => rfl
theorem q_Fl1_mem {m a p i : Nat} {s : Bool} (h1 : ((p + 2 * i) * (p + 2 * i) + m) % (4 * a) = 0) (h2 : 4 * a * a ≤ (p + 2 * i) * (p + 2 * i) + m) : ∀ k, i < k → (a, p + 2 * i, s) ∈ q_Fl1 m a p k
  | 0, h0 => by omega
  | k + 1, h0 => by
    unfold q_Fl1
    by_cases c : i = k
    · subst c
      have e : Nat.beq (((p + 2 * i) * (p + 2 * i) + m) % (4 * a)) 0 = true := by rw [Nat.beq_eq]; exact h1
      rw [e, Nat.ble_eq_true_of_le h2]
      cases s with
      | false => exact List.mem_cons_self
      | true => exact List.mem_cons_of_mem _ List.mem_cons_self
    · have := q_Fl1_mem (s := s) h1 h2 k (by omega)
      cases Nat.beq (((p + 2 * k) * (p + 2 * k) + m) % (4 * a)) 0 with
      | true =>
        cases Nat.ble (4 * a * a) ((p + 2 * k) * (p + 2 * k) + m) with
        | true => exact List.mem_cons_of_mem _ (List.mem_cons_of_mem _ this)
        | false => exact this
      | false => exact this
theorem q_Fl2_mem {m a : Nat} {x : Nat × Nat × Bool} (h : x ∈ q_Fl1 m (a + 1) (m % 2) ((a + 3 - m % 2) / 2)) (h2 : 3 * ((a + 1) * (a + 1)) ≤ m) : ∀ k, a < k → x ∈ q_Fl2 m k
  | 0, h0 => by omega
  | k + 1, h0 => by
    unfold q_Fl2
    by_cases c : a = k
    · subst c
      rw [Nat.ble_eq_true_of_le h2]
      exact List.mem_append_left _ h
    · have := q_Fl2_mem h h2 k (by omega)
      cases Nat.ble (3 * ((k + 1) * (k + 1))) m with
      | true => exact List.mem_append_right _ this
      | false => exact this
theorem q_e3_spec {m0 : Nat} : ∀ k, q_e3 m0 k = true → ∀ j, j < k → q_e2 (m0 + j) 36 ≤ 128
  | 0, _, j, h => by omega
  | k + 1, h, j, hj => by
    have e : q_e3 m0 (k + 1) = q_fc (m0 + k) (fun m => bif Nat.ble (q_e2 m 36) 128 then q_e3 m0 k else false) := rfl
    rw [e, q_fc_eq] at h
    cases q : Nat.ble (q_e2 (m0 + k) 36) 128 with
    | true =>
      rw [q] at h
      by_cases c : j = k
      · subst c
        exact Nat.le_of_ble_eq_true q
      · exact q_e3_spec k h j (by omega)
    | false => rw [q] at h; exact absurd h Bool.false_ne_true
/-- b has the evenness of D -/
theorem q_even_b {d a b c : Int} (h : b * b - 4 * a * c = d) : (b - d) % 2 = 0 := by
  refine q_sq_even (x := b) (d := d) ⟨-(2 * (a * c)), ?_⟩
  rw [← h]
  grind
theorem q_LF_p {d R : Int} {f : q_f3} (hdc : q_dc d R) (hp : 0 < d) (h : q_LF d R f) (ha : 0 < f.1) : (f.1.toNat, f.2.1.toNat) ∈ q_El2 d.toNat R.toNat ((R.toNat + d.toNat % 2) / 2) := by
  obtain ⟨a, b, c⟩ := f
  obtain ⟨h1, h2, h3⟩ := h
  have h1 : q_fm d a b c := h1
  have h3 : q_lst d R a b c = true := h3
  have h3 := (q_lst_p hp).mp h3
  have ha : 0 < a := ha
  obtain ⟨l1, l2, l3, l4⟩ := h3
  have hev := q_even_b h1.1
  have hR := q_dc_R hdc
  have hbb := q_sq_le (x := b) (M := R) ⟨by omega, by omega⟩
  have hRd : R * R < d := by rcases hdc with q | q <;> omega
  show (a.toNat, b.toNat) ∈ _
  obtain ⟨A, rfl⟩ : ∃ A : Nat, a = A := ⟨a.toNat, by omega⟩
  obtain ⟨B, rfl⟩ : ∃ B : Nat, b = B := ⟨b.toNat, by omega⟩
  obtain ⟨N, rfl⟩ : ∃ N : Nat, R = N := ⟨R.toNat, by omega⟩
  obtain ⟨D, rfl⟩ : ∃ D : Nat, d = D := ⟨d.toNat, by omega⟩
  simp only [Int.toNat_natCast, Int.natAbs_natCast] at *
  have eb : q_Eb D ((B - 1) / 2) = B := by unfold q_Eb; omega
  refine q_El2_mem (j := (B - 1) / 2) ?_ _ (by omega)
  rw [eb]
  have ea : A = (N - B) / 2 + 1 + (A - ((N - B) / 2 + 1)) := by omega
  rw [ea]
  refine q_El1_mem ?_ B (by omega)
  rw [← ea]
  have hle : B * B ≤ D := by
    have : ((B * B : Nat) : Int) ≤ D := by rw [Int.natCast_mul]; omega
    omega
  have hc : c ≤ 0 := by
    rcases Int.lt_or_le 0 c with q | q
    · have h9 : 0 < 4 * (A : Int) * c := Int.mul_pos (by omega) q
      have := h1.1
      have h10 : ((B * B : Nat) : Int) ≤ D := by omega
      rw [Int.natCast_mul] at h10
      omega
    · exact q
  obtain ⟨C, rfl⟩ : ∃ C : Nat, c = -(C : Int) := ⟨(-c).toNat, by omega⟩
  have e9 : D - B * B = 4 * (A * C) := by
    have h8 := h1.1
    have q1 : 4 * (A : Int) * -(C : Int) = -(4 * ((A * C : Nat) : Int)) := by rw [Int.natCast_mul]; grind
    have q2 : (B : Int) * B = ((B * B : Nat) : Int) := by rw [Int.natCast_mul]
    rw [q1, q2] at h8
    omega
  rw [e9, Nat.mul_div_cancel_left _ (by decide)]
  exact Nat.mul_mod_right A C
theorem q_LF_n {d R : Int} {f : q_f3} (hdc : q_dc d R) (hn : d < 0) (h : q_LF d R f) : (f.1.toNat, f.2.1.natAbs, decide (f.2.1 < 0)) ∈ q_Fl2 (-d).toNat 36 := by
  obtain ⟨a, b, c⟩ := f
  obtain ⟨h1, h2, h3⟩ := h
  have h1 : q_fm d a b c := h1
  have h3 : q_lst d R a b c = true := h3
  have h3 := q_lst_n hn h3
  have ha := (h1.2.2.2 hn).1
  obtain ⟨l1, l2, l3⟩ := h3
  have hev := q_even_b h1.1
  have hd4 : -4000 ≤ d := by rcases hdc with q | q <;> omega
  show (a.toNat, b.natAbs, decide (b < 0)) ∈ _
  have hbb := q_sq_le (x := b) (M := a) ⟨by omega, by omega⟩
  have hac : a * a ≤ a * c := Int.mul_le_mul_of_nonneg_left l2 (by omega)
  have e1 := h1.1
  have e4 : 4 * a * c = 4 * (a * c) := by grind
  have ha36 : a ≤ 36 := by
    rcases Int.lt_or_le 36 a with q | q
    · have : (37 : Int) * 37 ≤ a * a := Int.mul_le_mul (by omega) (by omega) (by omega) (by omega)
      omega
    · exact q
  obtain ⟨t, ht⟩ : ∃ t, t = b.natAbs := ⟨_, rfl⟩
  have htt : ((t * t : Nat) : Int) = b * b := by rw [ht, Int.natCast_mul, ← Int.natCast_mul, Int.natAbs_mul_self]
  obtain ⟨A, rfl⟩ : ∃ A : Nat, a = A := ⟨a.toNat, by omega⟩
  obtain ⟨m, hm⟩ : ∃ m : Nat, d = -(m : Int) := ⟨(-d).toNat, by omega⟩
  rw [← ht, hm, show (-(-(m : Int))).toNat = m by omega, Int.toNat_natCast]
  obtain ⟨A', rfl⟩ : ∃ A', A = A' + 1 := ⟨A - 1, by omega⟩
  have h3a : 3 * ((A' + 1) * (A' + 1)) ≤ m := by
    have : (3 * (((A' + 1) * (A' + 1) : Nat) : Int)) ≤ m := by rw [Int.natCast_mul]; omega
    omega
  refine q_Fl2_mem (a := A') ?_ h3a 36 (by omega)
  have e : t = m % 2 + 2 * ((t - m % 2) / 2) := by omega
  have e5 : ((t * t + m : Nat) : Int) = (4 * (A' + 1) : Nat) * c := by
    have h8 := h1.1
    have q : ((4 * (A' + 1) : Nat) : Int) * c = 4 * ((A' + 1 : Nat) : Int) * c := by rw [Int.natCast_mul]; rfl
    rw [Int.natCast_add, htt, q]
    omega
  have hmod : (t * t + m) % (4 * (A' + 1)) = 0 := Nat.mod_eq_zero_of_dvd (Int.natCast_dvd_natCast.mp ⟨c, e5⟩)
  have hle : 4 * (A' + 1) * (A' + 1) ≤ t * t + m := by
    have h6 : (((4 * (A' + 1)) * (A' + 1) : Nat) : Int) ≤ ((t * t + m : Nat) : Int) := by
      rw [e5, Int.natCast_mul]
      exact Int.mul_le_mul_of_nonneg_left l2 (by omega)
    omega
  rw [e] at hmod hle ⊢
  exact q_Fl1_mem hmod hle _ (by omega)
