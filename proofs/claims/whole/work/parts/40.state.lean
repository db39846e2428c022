/-! the state of both -/
abbrev q_SS : Type := (Int × Int × Int32) × (Nat × (Nat → q_f3)) × (Nat × (Nat → Int × q_f3)) × q_W4 × (Nat × (Nat → Int32 × Int32))
def q_m6 (x : Int) : Prop := -1000000 ≤ x ∧ x ≤ 1000000
/-- a form that may lie on the shelf -/
def q_G (d : Int) (f : q_f3) : Prop := q_F3 d f ∧ Int.gcd (Int.gcd f.1 f.2.1) f.2.2 = 1 ∧ q_m6 f.1 ∧ q_m6 f.2.1 ∧ q_m6 f.2.2
theorem q_G_s3 {d : Int} {f : q_f3} (h : q_G d f) : q_s3 f := by
  obtain ⟨h1, h2, ⟨h3, h4⟩, ⟨h5, h6⟩, ⟨h7, h8⟩⟩ := h
  exact ⟨⟨by omega, by omega⟩, ⟨by omega, by omega⟩, ⟨by omega, by omega⟩⟩
/-- the log can be undone act by act, the newest first -/
def q_Vl : Nat → Nat → (Nat → Int × q_f3) → Prop
  | _, 0, _ => True
  | n, m + 1, lg => ((lg 0).1 = -1 ∧ 1 ≤ n ∧ q_Vl (n - 1) m (fun i => lg (i + 1))) ∨ (0 ≤ (lg 0).1 ∧ (lg 0).1 < n ∧ q_Vl n m (fun i => lg (i + 1)))
theorem q_Vl_less : ∀ (m n : Nat) (lg : Nat → Int × q_f3), q_Vl n (m + 1) lg → q_Vl n m lg
  | 0, _, _, _ => trivial
  | m + 1, n, lg, h => by
    rcases h with ⟨h1, h2, h3⟩ | ⟨h1, h2, h3⟩
    · exact Or.inl ⟨h1, h2, q_Vl_less m (n - 1) _ h3⟩
    · exact Or.inr ⟨h1, h2, q_Vl_less m n _ h3⟩
def q_V (s : q_SS) : Prop := q_dc s.1.1 s.1.2.1 ∧ q_d4 s.1.1 ∧ s.2.1.1 ≤ 40 ∧ s.2.2.1.1 ≤ 60 ∧ s.2.2.2.2.1 ≤ 200 ∧ (∀ i, i < s.2.1.1 → q_G s.1.1 (s.2.1.2 i)) ∧ (∀ i, i < s.2.2.1.1 → (s.2.2.1.2 i).1 ≠ -1 → q_G s.1.1 (s.2.2.1.2 i).2) ∧ q_Vl s.2.1.1 s.2.2.1.1 s.2.2.1.2
/-- a form in a row -/
def q_3 (r : Nat → Int64) (j : Nat) (f : q_f3) : Prop := r j = q_l f.1 ∧ r (j + 1) = q_l f.2.1 ∧ r (j + 2) = q_l f.2.2
/-! the class -/
def q_Cg (d R : Int) (z : q_Z) : Prop := z.1 4 0 = q_i d ∧ z.1 4 1 = q_i R
def q_Cs (n : Nat) (sh : Nat → q_f3) (z : q_Z) : Prop := z.1 17 3 = q_i n ∧ ∀ i, i < n → q_3 (z.2 (19 + i)) 0 (sh i)
def q_Cl (m : Nat) (lg : Nat → Int × q_f3) (z : q_Z) : Prop := ∃ nx : Nat, nx < 60 ∧ z.1 17 4 = q_i m ∧ z.1 17 5 = q_i nx ∧ ∀ i, i < m → z.1 120 ((nx + 59 - i) % 60) = q_i (lg i).1 ∧ ((lg i).1 ≠ -1 → q_3 (z.2 (60 + (nx + 59 - i) % 60)) 0 (lg i).2)
def q_Cw (w : q_W4) (z : q_Z) : Prop := z.2 121 0 = w.1 ∧ z.2 121 1 = w.2.1 ∧ z.2 121 2 = w.2.2.1 ∧ z.2 121 3 = w.2.2.2
def q_Co (k : Nat) (ou : Nat → Int32 × Int32) (z : q_Z) : Prop := z.1 122 2 = q_i k ∧ ∀ i, i < k → z.1 123 i = (ou i).1 ∧ z.1 124 i = (ou i).2
def q_C (s : q_SS) (z : q_Z) : Prop := q_Cg s.1.1 s.1.2.1 z ∧ z.1 1 9 = s.1.2.2 ∧ q_Cs s.2.1.1 s.2.1.2 z ∧ q_Cl s.2.2.1.1 s.2.2.1.2 z ∧ q_Cw s.2.2.2.1 z ∧ q_Co s.2.2.2.2.1 s.2.2.2.2.2 z ∧ q_Ctab z
theorem q_Cg_fr {d R : Int} {z z2 : q_Z} (h : q_Cg d R z) (e : z2.1 4 = z.1 4) : q_Cg d R z2 := by
  unfold q_Cg
  rw [e]
  exact h
theorem q_Cs_fr {n : Nat} {sh : Nat → q_f3} {z z2 : q_Z} (h : q_Cs n sh z) (hn : n ≤ 40) (e : z2.1 17 3 = z.1 17 3) (e2 : ∀ i, i < 40 → z2.2 (19 + i) = z.2 (19 + i)) : q_Cs n sh z2 := by
  refine ⟨e.trans h.1, fun i hi => ?_⟩
  rw [e2 i (by omega)]
  exact h.2 i hi
theorem q_Cl_fr {m : Nat} {lg : Nat → Int × q_f3} {z z2 : q_Z} (h : q_Cl m lg z) (e4 : z2.1 17 4 = z.1 17 4) (e5 : z2.1 17 5 = z.1 17 5) (e1 : z2.1 120 = z.1 120) (e2 : ∀ i, i < 60 → z2.2 (60 + i) = z.2 (60 + i)) : q_Cl m lg z2 := by
  obtain ⟨nx, h1, h2, h3, h4⟩ := h
  refine ⟨nx, h1, e4.trans h2, e5.trans h3, fun i hi => ?_⟩
  rw [e1, e2 _ (Nat.mod_lt _ (by decide))]
  exact h4 i hi
theorem q_Cw_fr {w : q_W4} {z z2 : q_Z} (h : q_Cw w z) (e : z2.2 121 = z.2 121) : q_Cw w z2 := by
  unfold q_Cw
  rw [e]
  exact h
theorem q_Co_fr {k : Nat} {ou : Nat → Int32 × Int32} {z z2 : q_Z} (h : q_Co k ou z) (e : z2.1 122 = z.1 122) (e1 : z2.1 123 = z.1 123) (e2 : z2.1 124 = z.1 124) : q_Co k ou z2 := by
  unfold q_Co
  rw [e, e1, e2]
  exact h
/-- what lies outside trouble, the tables and the work rows has not changed -/
def q_CK (z z2 : q_Z) : Prop := ∀ n, n = 4 ∨ (17 ≤ n ∧ n ≤ 124) → z2.1 n = z.1 n ∧ z2.2 n = z.2 n
theorem q_C_keep {s : q_SS} {z z2 : q_Z} (t : Int32) (h : q_C s z) (hv : q_V s) (e : q_CK z z2) (ht : z2.1 1 9 = t) (hT : q_Ctab z2) : q_C ((s.1.1, s.1.2.1, t), s.2) z2 := by
  obtain ⟨h1, h2, h3, h4, h5, h6, h7⟩ := h
  refine ⟨q_Cg_fr h1 (e 4 (by omega)).1, ht, q_Cs_fr h3 hv.2.2.1 ?_ ?_, q_Cl_fr h4 ?_ ?_ (e 120 (by omega)).1 ?_, q_Cw_fr h5 (e 121 (by omega)).2, q_Co_fr h6 (e 122 (by omega)).1 (e 123 (by omega)).1 (e 124 (by omega)).1, hT⟩
  · rw [(e 17 (by omega)).1]
  · intro i hi
    exact (e (19 + i) (by omega)).2
  · rw [(e 17 (by omega)).1]
  · rw [(e 17 (by omega)).1]
  · intro i hi
    exact (e (60 + i) (by omega)).2
/-- only trouble and the work rows have changed -/
def q_CW (z z2 : q_Z) : Prop := ∀ n, n ≠ 1 → n ≠ 125 → n ≠ 126 → n ≠ 127 → z2.1 n = z.1 n ∧ z2.2 n = z.2 n
theorem q_CW_rfl (z : q_Z) : q_CW z z := fun _ _ _ _ _ => ⟨rfl, rfl⟩
theorem q_CW_trans {x y z : q_Z} (h1 : q_CW x y) (h2 : q_CW y z) : q_CW x z := fun n a b c d => ⟨(h2 n a b c d).1.trans (h1 n a b c d).1, (h2 n a b c d).2.trans (h1 n a b c d).2⟩
theorem q_CW_t {z z2 : q_Z} (t : Int32) (h : q_CW z z2) : q_CW z (q_u2 z2.1 1 9 t, z2.2) := fun n a b c d => ⟨by show q_u2 z2.1 1 9 t n = z.1 n; rw [q_u2_ne a]; exact (h n a b c d).1, (h n a b c d).2⟩
theorem q_CW_only {z z2 : q_Z} {o : Nat} (ho : o = 125 ∨ o = 126 ∨ o = 127) (h : q_only o z z2) : q_CW z z2 := fun n _ b c d => h n (by omega)
/-! what a call may change -/
def q_fC (z z2 : q_Z) : Prop := ∀ n, 128 ≤ n → z2.1 n = z.1 n ∧ z2.2 n = z.2 n
def q_fM (z z2 : q_Z) : Prop := ∀ n, n < 128 → z2.1 n = z.1 n ∧ z2.2 n = z.2 n
theorem q_C_work {s : q_SS} {z z2 : q_Z} (t : Int32) (h : q_C s z) (hv : q_V s) (e : q_CW z z2) (ht : z2.1 1 9 = t) : q_C ((s.1.1, s.1.2.1, t), s.2) z2 ∧ q_fC z z2 :=
  ⟨q_C_keep t h hv (fun n hn => e n (by omega) (by omega) (by omega) (by omega)) ht (q_Ctab_fr h.2.2.2.2.2.2 (fun n a b _ => (e n b (by omega) (by omega) (by omega)).1)), fun n hn => e n (by omega) (by omega) (by omega) (by omega)⟩
theorem q_C_fr {s : q_SS} {z z2 : q_Z} (h : q_C s z) (hv : q_V s) (e : q_fM z z2) : q_C s z2 :=
  q_C_keep s.1.2.2 h hv (fun n hn => e n (by omega)) (by rw [(e 1 (by omega)).1]; exact h.2.1) (q_Ctab_fr h.2.2.2.2.2.2 (fun n a _ _ => (e n (by omega)).1))
/-! the reference -/
def q_Mg (d R : Int) (z : q_Z) : Prop := z.1 128 0 = q_i d ∧ z.1 128 1 = q_i R
def q_Ms (n : Nat) (sh : Nat → q_f3) (z : q_Z) : Prop := z.1 128 6 = q_i n ∧ ∀ i, i < n → q_3 (z.2 129) (3 * i) (sh i)
def q_Ml (m : Nat) (lg : Nat → Int × q_f3) (z : q_Z) : Prop := z.1 128 7 = q_i m ∧ ∀ i, i < m → z.2 130 (4 * (m - 1 - i)) = q_l (lg i).1 ∧ ((lg i).1 ≠ -1 → q_3 (z.2 130) (4 * (m - 1 - i) + 1) (lg i).2)
def q_Mw (w : q_W4) (z : q_Z) : Prop := z.2 131 0 = w.1 ∧ z.2 131 1 = w.2.1 ∧ z.2 131 2 = w.2.2.1 ∧ z.2 131 3 = w.2.2.2
def q_Mo (k : Nat) (ou : Nat → Int32 × Int32) (z : q_Z) : Prop := z.1 128 11 = q_i k ∧ ∀ i, i < k → z.1 132 i = (ou i).1 ∧ z.1 133 i = (ou i).2
def q_M (s : q_SS) (z : q_Z) : Prop := q_Mg s.1.1 s.1.2.1 z ∧ z.1 128 2 = s.1.2.2 ∧ q_Ms s.2.1.1 s.2.1.2 z ∧ q_Ml s.2.2.1.1 s.2.2.1.2 z ∧ q_Mw s.2.2.2.1 z ∧ q_Mo s.2.2.2.2.1 s.2.2.2.2.2 z ∧ q_Mtab s.1.1 s.1.2.1 z
theorem q_Mg_fr {d R : Int} {z z2 : q_Z} (h : q_Mg d R z) (e0 : z2.1 128 0 = z.1 128 0) (e1 : z2.1 128 1 = z.1 128 1) : q_Mg d R z2 := ⟨e0.trans h.1, e1.trans h.2⟩
theorem q_Ms_fr {n : Nat} {sh : Nat → q_f3} {z z2 : q_Z} (h : q_Ms n sh z) (e0 : z2.1 128 6 = z.1 128 6) (e1 : z2.2 129 = z.2 129) : q_Ms n sh z2 := by
  refine ⟨e0.trans h.1, ?_⟩
  rw [e1]
  exact h.2
theorem q_Ml_fr {m : Nat} {lg : Nat → Int × q_f3} {z z2 : q_Z} (h : q_Ml m lg z) (e0 : z2.1 128 7 = z.1 128 7) (e1 : z2.2 130 = z.2 130) : q_Ml m lg z2 := by
  refine ⟨e0.trans h.1, ?_⟩
  rw [e1]
  exact h.2
theorem q_Mw_fr {w : q_W4} {z z2 : q_Z} (h : q_Mw w z) (e : z2.2 131 = z.2 131) : q_Mw w z2 := by
  unfold q_Mw
  rw [e]
  exact h
theorem q_Mo_fr {k : Nat} {ou : Nat → Int32 × Int32} {z z2 : q_Z} (h : q_Mo k ou z) (e : z2.1 128 11 = z.1 128 11) (e1 : z2.1 132 = z.1 132) (e2 : z2.1 133 = z.1 133) : q_Mo k ou z2 := by
  refine ⟨e.trans h.1, ?_⟩
  rw [e1, e2]
  exact h.2
/-- the fields of the reference that make its state, trouble aside -/
def q_MF (I J : Nat → Nat → Int32) : Prop := J 128 0 = I 128 0 ∧ J 128 1 = I 128 1 ∧ J 128 6 = I 128 6 ∧ J 128 7 = I 128 7 ∧ J 128 11 = I 128 11 ∧ J 128 22 = I 128 22 ∧ J 128 23 = I 128 23
/-- only trouble, the work fields and the work rows have changed -/
def q_MW (z z2 : q_Z) : Prop := (∀ n, n ≠ 128 → n < 139 → z2.1 n = z.1 n ∧ z2.2 n = z.2 n) ∧ q_MF z.1 z2.1
theorem q_MF_rfl (I : Nat → Nat → Int32) : q_MF I I := ⟨rfl, rfl, rfl, rfl, rfl, rfl, rfl⟩
theorem q_MW_rfl (z : q_Z) : q_MW z z := ⟨fun _ _ _ => ⟨rfl, rfl⟩, q_MF_rfl _⟩
theorem q_MW_trans {x y z : q_Z} (h1 : q_MW x y) (h2 : q_MW y z) : q_MW x z := by
  obtain ⟨a, a1, a2, a3, a4, a5, a6, a7⟩ := h1
  obtain ⟨b, b1, b2, b3, b4, b5, b6, b7⟩ := h2
  exact ⟨fun n hn hk => ⟨(b n hn hk).1.trans (a n hn hk).1, (b n hn hk).2.trans (a n hn hk).2⟩, b1.trans a1, b2.trans a2, b3.trans a3, b4.trans a4, b5.trans a5, b6.trans a6, b7.trans a7⟩
theorem q_MW_t {z z2 : q_Z} {k : Nat} (t : Int32) (hk : k ≠ 0 ∧ k ≠ 1 ∧ k ≠ 6 ∧ k ≠ 7 ∧ k ≠ 11 ∧ k ≠ 22 ∧ k ≠ 23) (h : q_MW z z2) : q_MW z (q_u2 z2.1 128 k t, z2.2) := by
  obtain ⟨a, a1, a2, a3, a4, a5, a6, a7⟩ := h
  refine ⟨fun n hn hl => ⟨by show q_u2 z2.1 128 k t n = z.1 n; rw [q_u2_ne hn]; exact (a n hn hl).1, (a n hn hl).2⟩, ?_, ?_, ?_, ?_, ?_, ?_, ?_⟩
  · show q_u2 z2.1 128 k t 128 0 = _; rw [q_u2_at, if_neg (by omega)]; exact a1
  · show q_u2 z2.1 128 k t 128 1 = _; rw [q_u2_at, if_neg (by omega)]; exact a2
  · show q_u2 z2.1 128 k t 128 6 = _; rw [q_u2_at, if_neg (by omega)]; exact a3
  · show q_u2 z2.1 128 k t 128 7 = _; rw [q_u2_at, if_neg (by omega)]; exact a4
  · show q_u2 z2.1 128 k t 128 11 = _; rw [q_u2_at, if_neg (by omega)]; exact a5
  · show q_u2 z2.1 128 k t 128 22 = _; rw [q_u2_at, if_neg (by omega)]; exact a6
  · show q_u2 z2.1 128 k t 128 23 = _; rw [q_u2_at, if_neg (by omega)]; exact a7
theorem q_MW_L {z : q_Z} {I : Nat → Nat → Int32} {L : Nat → Nat → Int64} {k : Nat} {v : Int64} (h : q_MW z (I, L)) : q_MW z (I, q_u2 L 128 k v) :=
  ⟨fun n hn hl => ⟨(h.1 n hn hl).1, by show q_u2 L 128 k v n = z.2 n; rw [q_u2_ne hn]; exact (h.1 n hn hl).2⟩, h.2⟩
theorem q_MW_FR {z z2 : q_Z} (h : q_FRm z z2) : q_MW z z2 := ⟨fun n hn _ => h.1 n hn, h.2.2 0 (by decide), h.2.2 1 (by decide), h.2.2 6 (by decide), h.2.2 7 (by decide), h.2.2 11 (by decide), h.2.2 22 (by decide), h.2.2 23 (by decide)⟩
theorem q_MW_w7 {z : q_Z} {I : Nat → Nat → Int32} {L : Nat → Nat → Int64} {f : q_f3} {w : q_W4} (h : q_MW z (I, L)) : q_MW z (I, q_w7 L f w) := by
  unfold q_w7
  exact q_MW_L (q_MW_L (q_MW_L (q_MW_L (q_MW_L (q_MW_L (q_MW_L h))))))
theorem q_M_keep {s : q_SS} {z z2 : q_Z} (t : Int32) (h : q_M s z) (e0 : q_MF z.1 z2.1) (e : ∀ n, 129 ≤ n → n < 139 → z2.1 n = z.1 n ∧ z2.2 n = z.2 n) (ht : z2.1 128 2 = t) : q_M ((s.1.1, s.1.2.1, t), s.2) z2 := by
  obtain ⟨h1, h2, h3, h4, h5, h6, h7⟩ := h
  obtain ⟨a1, a2, a3, a4, a5, a6, a7⟩ := e0
  exact ⟨q_Mg_fr h1 a1 a2, ht, q_Ms_fr h3 a3 (e 129 (by omega) (by omega)).2, q_Ml_fr h4 a4 (e 130 (by omega) (by omega)).2, q_Mw_fr h5 (e 131 (by omega) (by omega)).2, q_Mo_fr h6 a5 (e 132 (by omega) (by omega)).1 (e 133 (by omega) (by omega)).1, q_Mtab_fr h7 a6 a7 (fun n hn hk => (e n (by omega) (by omega)).1)⟩
theorem q_M_work {s : q_SS} {z z2 : q_Z} (t : Int32) (h : q_M s z) (e : q_MW z z2) (ht : z2.1 128 2 = t) : q_M ((s.1.1, s.1.2.1, t), s.2) z2 ∧ q_fM z z2 :=
  ⟨q_M_keep t h e.2 (fun n hn hk => e.1 n (by omega) hk) ht, fun n hn => e.1 n (by omega) (by omega)⟩
theorem q_M_fr {s : q_SS} {z z2 : q_Z} (h : q_M s z) (e : q_fC z z2) : q_M s z2 := by
  have e8 := (e 128 (by omega)).1
  exact q_M_keep s.1.2.2 h ⟨by rw [e8], by rw [e8], by rw [e8], by rw [e8], by rw [e8], by rw [e8], by rw [e8]⟩ (fun n hn _ => e n (by omega)) (by rw [e8]; exact h.2.1)
/-! a call: both answer the same, and come to the same state -/
def q_cok {α : Type} (F G : q_Z → Option (α × q_Z)) (s : q_SS) : Prop := ∃ (r : α) (s2 : q_SS), q_V s2 ∧ (∀ z, q_C s z → ∃ z2, F z = some (r, z2) ∧ q_C s2 z2 ∧ q_fC z z2) ∧ (∀ z, q_M s z → ∃ z2, G z = some (r, z2) ∧ q_M s2 z2 ∧ q_fM z z2)
theorem q_cok_both {α : Type} {F G : q_Z → Option (α × q_Z)} {s : q_SS} {z : q_Z} (h : q_cok F G s) (hC : q_C s z) (hM : q_M s z) : ∃ r z1 z2 s2, F z = some (r, z1) ∧ G z1 = some (r, z2) ∧ q_V s2 ∧ q_C s2 z2 ∧ q_M s2 z2 := by
  obtain ⟨r, s2, v, a, b⟩ := h
  obtain ⟨z1, a1, a2, a3⟩ := a z hC
  obtain ⟨z2, b1, b2, b3⟩ := b z1 (q_M_fr hM a3)
  exact ⟨r, z1, z2, s2, a1, b1, v, q_C_fr a2 v b3, b2⟩
/-- only trouble has changed -/
theorem q_cok_t {α : Type} {F G : q_Z → Option (α × q_Z)} {s : q_SS} (hv : q_V s) (r : α) (t : Int32) (hF : ∀ z, q_C s z → ∃ z2, F z = some (r, z2) ∧ q_CW z z2 ∧ z2.1 1 9 = t) (hG : ∀ z, q_M s z → ∃ z2, G z = some (r, z2) ∧ q_MW z z2 ∧ z2.1 128 2 = t) : q_cok F G s := by
  refine ⟨r, ((s.1.1, s.1.2.1, t), s.2), hv, fun z hz => ?_, fun z hz => ?_⟩
  · obtain ⟨z2, a1, a2, a3⟩ := hF z hz
    exact ⟨z2, a1, q_C_work t hz hv a2 a3⟩
  · obtain ⟨z2, a1, a2, a3⟩ := hG z hz
    exact ⟨z2, a1, q_M_work t hz a2 a3⟩
/-- nothing has changed -/
theorem q_cok_r {α : Type} {F G : q_Z → Option (α × q_Z)} {s : q_SS} (hv : q_V s) (r : α) (hF : ∀ z, q_C s z → ∃ z2, F z = some (r, z2) ∧ q_CW z z2 ∧ z2.1 1 9 = z.1 1 9) (hG : ∀ z, q_M s z → ∃ z2, G z = some (r, z2) ∧ q_MW z z2 ∧ z2.1 128 2 = z.1 128 2) : q_cok F G s := by
  refine q_cok_t hv r s.1.2.2 (fun z hz => ?_) (fun z hz => ?_)
  · obtain ⟨z2, a1, a2, a3⟩ := hF z hz
    exact ⟨z2, a1, a2, a3.trans hz.2.1⟩
  · obtain ⟨z2, a1, a2, a3⟩ := hG z hz
    exact ⟨z2, a1, a2, a3.trans hz.2.1⟩
