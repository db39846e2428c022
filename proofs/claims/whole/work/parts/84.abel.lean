/-! finite groups of the numbers below h: powers, orders -/
def q_Gp (h : Nat) (J : Nat → Nat → Nat) : Prop := 0 < h ∧ (∀ i j, i < h → j < h → J i j < h) ∧ (∀ i j, i < h → j < h → J i j = J j i) ∧ (∀ i j k, i < h → j < h → k < h → J (J i j) k = J i (J j k)) ∧ (∀ i, i < h → J 0 i = i) ∧ ∀ i, i < h → ∃ j, j < h ∧ J i j = 0
def q_pw (J : Nat → Nat → Nat) (i : Nat) : Nat → Nat
  | 0 => 0
  | n + 1 => J (q_pw J i n) i
theorem q_pw_lt {h : Nat} {J : Nat → Nat → Nat} {i : Nat} (g : q_Gp h J) (hi : i < h) : ∀ n, q_pw J i n < h
  | 0 => g.1
  | n + 1 => g.2.1 _ _ (q_pw_lt g hi n) hi
theorem q_pw_1 {h : Nat} {J : Nat → Nat → Nat} {i : Nat} (g : q_Gp h J) (hi : i < h) : q_pw J i 1 = i := g.2.2.2.2.1 i hi
theorem q_J0 {h : Nat} {J : Nat → Nat → Nat} {i : Nat} (g : q_Gp h J) (hi : i < h) : J i 0 = i := by
  rw [g.2.2.1 i 0 hi g.1]
  exact g.2.2.2.2.1 i hi
theorem q_pw_add {h : Nat} {J : Nat → Nat → Nat} {i : Nat} (g : q_Gp h J) (hi : i < h) (m : Nat) : ∀ n, q_pw J i (m + n) = J (q_pw J i m) (q_pw J i n)
  | 0 => (q_J0 g (q_pw_lt g hi m)).symm
  | n + 1 => by
    show J (q_pw J i (m + n)) i = J (q_pw J i m) (J (q_pw J i n) i)
    rw [q_pw_add g hi m n, g.2.2.2.1 _ _ _ (q_pw_lt g hi m) (q_pw_lt g hi n) hi]
theorem q_pw_mul {h : Nat} {J : Nat → Nat → Nat} {i : Nat} (g : q_Gp h J) (hi : i < h) (m : Nat) : ∀ n, q_pw J (q_pw J i m) n = q_pw J i (m * n)
  | 0 => rfl
  | n + 1 => by
    show J (q_pw J (q_pw J i m) n) (q_pw J i m) = q_pw J i (m * n + m)
    rw [q_pw_mul g hi m n, q_pw_add g hi]
theorem q_pw_0 {h : Nat} {J : Nat → Nat → Nat} (g : q_Gp h J) : ∀ n, q_pw J 0 n = 0
  | 0 => rfl
  | n + 1 => by
    show J (q_pw J 0 n) 0 = 0
    rw [q_pw_0 g n]
    exact q_J0 g g.1
theorem q_can {h : Nat} {J : Nat → Nat → Nat} {i j k : Nat} (g : q_Gp h J) (hi : i < h) (hj : j < h) (hk : k < h) (e : J i j = J i k) : j = k := by
  obtain ⟨x, hx, e2⟩ := g.2.2.2.2.2 i hi
  rw [g.2.2.1 i x hi hx] at e2
  have h1 := g.2.2.2.1 x i j hx hi hj
  have h2 := g.2.2.2.1 x i k hx hi hk
  rw [e2, g.2.2.2.2.1 j hj] at h1
  rw [e2, g.2.2.2.2.1 k hk] at h2
  rw [h1, h2, e]
theorem q_med {h : Nat} {J : Nat → Nat → Nat} {a b c d : Nat} (g : q_Gp h J) (ha : a < h) (hb : b < h) (hc : c < h) (hd : d < h) : J (J a b) (J c d) = J (J a c) (J b d) := by
  rw [g.2.2.2.1 a b _ ha hb (g.2.1 c d hc hd), ← g.2.2.2.1 b c d hb hc hd, g.2.2.1 b c hb hc, g.2.2.2.1 c b d hc hb hd, ← g.2.2.2.1 a c _ ha hc (g.2.1 b d hb hd)]
theorem q_pw_J {h : Nat} {J : Nat → Nat → Nat} {i j : Nat} (g : q_Gp h J) (hi : i < h) (hj : j < h) : ∀ n, q_pw J (J i j) n = J (q_pw J i n) (q_pw J j n)
  | 0 => (q_J0 g g.1).symm
  | n + 1 => by
    show J (q_pw J (J i j) n) (J i j) = J (J (q_pw J i n) i) (J (q_pw J j n) j)
    rw [q_pw_J g hi hj n, q_med g (q_pw_lt g hi n) (q_pw_lt g hj n) hi hj]
theorem q_leastN {P : Nat → Prop} : ∀ n, P n → ∃ m, m ≤ n ∧ P m ∧ ∀ k, k < m → ¬ P k := by
  intro n
  induction n using Nat.strongRecOn with
  | ind n ih =>
    intro hn
    by_cases c : ∃ k, k < n ∧ P k
    · obtain ⟨k, k1, k2⟩ := c
      obtain ⟨m, m1, m2, m3⟩ := ih k k1 k2
      exact ⟨m, by omega, m2, m3⟩
    · exact ⟨n, Nat.le_refl _, hn, fun k hk hP => c ⟨k, hk, hP⟩⟩
noncomputable def q_or (J : Nat → Nat → Nat) (i : Nat) : Nat := Classical.epsilon (fun n => 0 < n ∧ q_pw J i n = 0 ∧ ∀ m, 0 < m → m < n → q_pw J i m ≠ 0)
theorem q_or_ex {h : Nat} {J : Nat → Nat → Nat} {i : Nat} (g : q_Gp h J) (hi : i < h) : ∃ n, 0 < n ∧ n ≤ h ∧ q_pw J i n = 0 := by
  obtain ⟨a, b, h1, h2, h3⟩ := q_pigeon h (fun n => q_pw J i n) (fun n _ => q_pw_lt g hi n)
  refine ⟨b - a, by omega, by omega, ?_⟩
  have h4 := q_pw_add g hi a (b - a)
  rw [show a + (b - a) = b by omega] at h4
  have h5 : J (q_pw J i a) (q_pw J i (b - a)) = J (q_pw J i a) 0 := by
    rw [← h4, q_J0 g (q_pw_lt g hi a)]
    exact h3.symm
  exact q_can g (q_pw_lt g hi a) (q_pw_lt g hi _) g.1 h5
theorem q_or_spec {h : Nat} {J : Nat → Nat → Nat} {i : Nat} (g : q_Gp h J) (hi : i < h) : 0 < q_or J i ∧ q_pw J i (q_or J i) = 0 ∧ ∀ m, 0 < m → m < q_or J i → q_pw J i m ≠ 0 := by
  refine Classical.epsilon_spec (p := fun n => 0 < n ∧ q_pw J i n = 0 ∧ ∀ m, 0 < m → m < n → q_pw J i m ≠ 0) ?_
  obtain ⟨n, n1, _, n2⟩ := q_or_ex g hi
  obtain ⟨m, _, m2, m3⟩ := q_leastN (P := fun n => 0 < n ∧ q_pw J i n = 0) n ⟨n1, n2⟩
  exact ⟨m, m2.1, m2.2, fun k k0 k1 k2 => m3 k k1 ⟨k0, k2⟩⟩
theorem q_or_le {h : Nat} {J : Nat → Nat → Nat} {i : Nat} (g : q_Gp h J) (hi : i < h) : q_or J i ≤ h := by
  obtain ⟨n, n1, n2, n3⟩ := q_or_ex g hi
  have hs := q_or_spec g hi
  rcases Nat.lt_or_ge n (q_or J i) with q | q
  · exact absurd n3 (hs.2.2 n n1 q)
  · omega
theorem q_or_dvd {h : Nat} {J : Nat → Nat → Nat} {i n : Nat} (g : q_Gp h J) (hi : i < h) : q_pw J i n = 0 ↔ q_or J i ∣ n := by
  obtain ⟨s1, s2, s3⟩ := q_or_spec g hi
  have key : ∀ q, q_pw J i (q_or J i * q) = 0 := fun q => by rw [← q_pw_mul g hi, s2, q_pw_0 g]
  refine ⟨fun e => ?_, fun e => ?_⟩
  · have h1 := Nat.div_add_mod n (q_or J i)
    have h2 := q_pw_add g hi (q_or J i * (n / q_or J i)) (n % q_or J i)
    rw [h1, key, e, g.2.2.2.2.1 _ (q_pw_lt g hi _)] at h2
    have h3 := Nat.mod_lt n s1
    rcases Nat.eq_zero_or_pos (n % q_or J i) with q | q
    · exact Nat.dvd_of_mod_eq_zero q
    · exact absurd h2.symm (s3 _ q h3)
  · obtain ⟨q, rfl⟩ := e
    exact key q
theorem q_or_uni {h : Nat} {J : Nat → Nat → Nat} {i n : Nat} (g : q_Gp h J) (hi : i < h) (hn : ∀ m, q_pw J i m = 0 ↔ n ∣ m) : q_or J i = n := by
  refine Nat.dvd_antisymm ((q_or_dvd g hi).mp ((hn n).mpr (Nat.dvd_refl n))) ((hn _).mp ?_)
  exact (q_or_spec g hi).2.1
theorem q_or_pw {h : Nat} {J : Nat → Nat → Nat} {i k : Nat} (g : q_Gp h J) (hi : i < h) : q_or J (q_pw J i k) = q_or J i / Nat.gcd (q_or J i) k := by
  refine q_or_uni g (q_pw_lt g hi k) (fun m => ?_)
  rw [q_pw_mul g hi, q_or_dvd g hi]
  obtain ⟨s1, -, -⟩ := q_or_spec g hi
  generalize q_or J i = L at *
  have hg : 0 < Nat.gcd L k := Nat.gcd_pos_of_pos_left k s1
  obtain ⟨x, hx⟩ := Nat.gcd_dvd_left L k
  obtain ⟨y, hy⟩ := Nat.gcd_dvd_right L k
  have hc := Nat.coprime_div_gcd_div_gcd hg
  generalize Nat.gcd L k = c at *
  subst hx
  subst hy
  rw [Nat.mul_div_cancel_left x hg] at hc ⊢
  rw [Nat.mul_div_cancel_left y hg] at hc
  rw [Nat.mul_assoc]
  refine ⟨fun e => hc.dvd_of_dvd_mul_left (Nat.dvd_of_mul_dvd_mul_left hg e), fun e => Nat.mul_dvd_mul_left c (Nat.dvd_trans e (Nat.dvd_mul_left m y))⟩
/-! counting -/
noncomputable def q_cnt (P : Nat → Prop) : Nat → Nat
  | 0 => 0
  | n + 1 => q_cnt P n + @ite Nat (P n) (Classical.propDecidable _) 1 0
theorem q_cnt_yes {P : Nat → Prop} {n : Nat} (h : P n) : q_cnt P (n + 1) = q_cnt P n + 1 := by
  show q_cnt P n + @ite Nat (P n) (Classical.propDecidable _) 1 0 = _
  rw [if_pos h]
theorem q_cnt_no {P : Nat → Prop} {n : Nat} (h : ¬ P n) : q_cnt P (n + 1) = q_cnt P n := by
  show q_cnt P n + @ite Nat (P n) (Classical.propDecidable _) 1 0 = _
  rw [if_neg h]
  rfl
theorem q_cnt_le {P Q : Nat → Prop} : ∀ n, (∀ i, i < n → P i → Q i) → q_cnt P n ≤ q_cnt Q n
  | 0, _ => Nat.le_refl _
  | n + 1, h => by
    have ih := q_cnt_le n (fun i hi => h i (by omega))
    by_cases c : P n
    · rw [q_cnt_yes c, q_cnt_yes (h n (by omega) c)]
      omega
    · rw [q_cnt_no c]
      by_cases c2 : Q n
      · rw [q_cnt_yes c2]
        omega
      · rw [q_cnt_no c2]
        exact ih
theorem q_cnt_ext {P Q : Nat → Prop} {n : Nat} (h : ∀ i, i < n → (P i ↔ Q i)) : q_cnt P n = q_cnt Q n :=
  Nat.le_antisymm (q_cnt_le n (fun i hi => (h i hi).mp)) (q_cnt_le n (fun i hi => (h i hi).mpr))
theorem q_cnt_all (n : Nat) : q_cnt (fun _ => True) n = n := by
  induction n with
  | zero => rfl
  | succ n ih => rw [q_cnt_yes trivial, ih]
theorem q_cnt_eq {P Q : Nat → Prop} : ∀ n, (∀ i, i < n → P i → Q i) → q_cnt P n = q_cnt Q n → ∀ i, i < n → Q i → P i
  | 0, _, _, i, hi, _ => by omega
  | n + 1, h, e, i, hi, hq => by
    have le := q_cnt_le n (fun i hi => h i (by omega))
    have key : q_cnt P n = q_cnt Q n ∧ (Q n → P n) := by
      by_cases c : P n
      · rw [q_cnt_yes c, q_cnt_yes (h n (by omega) c)] at e
        exact ⟨by omega, fun _ => c⟩
      · rw [q_cnt_no c] at e
        by_cases c2 : Q n
        · rw [q_cnt_yes c2] at e
          omega
        · rw [q_cnt_no c2] at e
          exact ⟨e, fun q => absurd q c2⟩
    rcases Nat.lt_or_ge i n with q | q
    · exact q_cnt_eq n (fun i hi => h i (by omega)) key.1 i q hq
    · have : i = n := by omega
      subst this
      exact key.2 hq
theorem q_cnt_rem {P : Nat → Prop} {j : Nat} : ∀ n, j < n → P j → q_cnt P n = q_cnt (fun i => P i ∧ i ≠ j) n + 1
  | 0, hj, _ => by omega
  | n + 1, hj, hP => by
    rcases Nat.lt_or_ge j n with q | q
    · have ih := q_cnt_rem n q hP
      by_cases c : P n
      · rw [q_cnt_yes c, q_cnt_yes (P := fun i => P i ∧ i ≠ j) ⟨c, by omega⟩, ih]
      · rw [q_cnt_no c, q_cnt_no (P := fun i => P i ∧ i ≠ j) (fun x => c x.1), ih]
    · have e : j = n := by omega
      subst e
      rw [q_cnt_yes hP, q_cnt_no (P := fun i => P i ∧ i ≠ j) (fun x => x.2 rfl)]
      rw [q_cnt_ext (P := P) (Q := fun i => P i ∧ i ≠ j) (fun i hi => ⟨fun x => ⟨x, by omega⟩, fun x => x.1⟩)]
theorem q_cnt_inj {f : Nat → Nat} {Q : Nat → Prop} {m : Nat} : ∀ (n : Nat) (P : Nat → Prop), (∀ i, i < n → Q i → f i < m ∧ P (f i)) → (∀ i j, i < n → j < n → Q i → Q j → f i = f j → i = j) → q_cnt Q n ≤ q_cnt P m
  | 0, _, _, _ => Nat.zero_le _
  | n + 1, P, h1, h2 => by
    by_cases c : Q n
    · obtain ⟨a, b⟩ := h1 n (by omega) c
      rw [q_cnt_yes c, q_cnt_rem m a b]
      refine Nat.succ_le_succ (q_cnt_inj n (fun i => P i ∧ i ≠ f n) (fun i hi hq => ?_) (fun i j hi hj => h2 i j (by omega) (by omega)))
      obtain ⟨x, y⟩ := h1 i (by omega) hq
      exact ⟨x, y, fun e => by have := h2 i n (by omega) (by omega) hq c e; omega⟩
    · rw [q_cnt_no c]
      exact q_cnt_inj n P (fun i hi => h1 i (by omega)) (fun i j hi hj => h2 i j (by omega) (by omega))
theorem q_cnt_or {P Q : Nat → Prop} : ∀ n, (∀ i, i < n → ¬ (P i ∧ Q i)) → q_cnt (fun i => P i ∨ Q i) n = q_cnt P n + q_cnt Q n
  | 0, _ => rfl
  | n + 1, h => by
    have ih := q_cnt_or n (fun i hi => h i (by omega))
    by_cases c : P n
    · have c2 : ¬ Q n := fun q => h n (by omega) ⟨c, q⟩
      rw [q_cnt_yes (P := fun i => P i ∨ Q i) (Or.inl c), q_cnt_yes c, q_cnt_no c2, ih]
      omega
    · by_cases c2 : Q n
      · rw [q_cnt_yes (P := fun i => P i ∨ Q i) (Or.inr c2), q_cnt_no c, q_cnt_yes c2, ih]
        omega
      · rw [q_cnt_no (P := fun i => P i ∨ Q i) (fun x => x.elim c c2), q_cnt_no c, q_cnt_no c2, ih]
