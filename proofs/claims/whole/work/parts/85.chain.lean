/-! subgroups, and how many they have -/
def q_Sb (h : Nat) (J : Nat → Nat → Nat) (K : Nat → Prop) : Prop := K 0 ∧ ∀ i j, i < h → j < h → K i → K j → K (J i j)
theorem q_Sb_pw {h : Nat} {J : Nat → Nat → Nat} {K : Nat → Prop} {i : Nat} (g : q_Gp h J) (hK : q_Sb h J K) (hi : i < h) (ki : K i) : ∀ n, K (q_pw J i n)
  | 0 => hK.1
  | n + 1 => hK.2 _ _ (q_pw_lt g hi n) hi (q_Sb_pw g hK hi ki n) ki
theorem q_Sb_can {h : Nat} {J : Nat → Nat → Nat} {K : Nat → Prop} {i j : Nat} (g : q_Gp h J) (hK : q_Sb h J K) (hi : i < h) (hj : j < h) (ki : K i) (kij : K (J i j)) : K j := by
  obtain ⟨s1, s2, -⟩ := q_or_spec g hi
  have h1 := hK.2 _ _ (q_pw_lt g hi (q_or J i - 1)) (g.2.1 _ _ hi hj) (q_Sb_pw g hK hi ki (q_or J i - 1)) kij
  rw [← g.2.2.2.1 _ _ _ (q_pw_lt g hi _) hi hj] at h1
  have h2 : J (q_pw J i (q_or J i - 1)) i = 0 := by
    have h3 : q_pw J i (q_or J i - 1 + 1) = 0 := by rw [show q_or J i - 1 + 1 = q_or J i by omega]; exact s2
    exact h3
  rw [h2, g.2.2.2.2.1 j hj] at h1
  exact h1
/-- the multiples of one class by the classes of K -/
def q_Cs1 (h : Nat) (J : Nat → Nat → Nat) (K : Nat → Prop) (c : Nat) : Nat → Prop := fun y => ∃ k, k < h ∧ K k ∧ y = J k c
def q_Us (h : Nat) (J : Nat → Nat → Nat) (K : Nat → Prop) (x s : Nat) : Nat → Prop := fun y => ∃ j, j < s ∧ q_Cs1 h J K (q_pw J x j) y
theorem q_Cs1_cnt {h : Nat} {J : Nat → Nat → Nat} {K : Nat → Prop} {c : Nat} (g : q_Gp h J) (hc : c < h) : q_cnt (q_Cs1 h J K c) h = q_cnt K h := by
  obtain ⟨v, hv, e⟩ := g.2.2.2.2.2 c hc
  refine Nat.le_antisymm (q_cnt_inj (f := fun y => J y v) h K ?_ ?_) (q_cnt_inj (f := fun k => J k c) h (q_Cs1 h J K c) ?_ ?_)
  · rintro y hy ⟨k, k1, k2, rfl⟩
    refine ⟨g.2.1 _ _ hy hv, ?_⟩
    show K (J (J k c) v)
    rw [g.2.2.2.1 k c v k1 hc hv, e, q_J0 g k1]
    exact k2
  · intro y y2 hy hy2 _ _ e2
    refine q_can g hv hy hy2 ?_
    rw [g.2.2.1 v y hv hy, g.2.2.1 v y2 hv hy2]
    exact e2
  · intro k hk hK
    exact ⟨g.2.1 _ _ hk hc, k, hk, hK, rfl⟩
  · intro k k2 hk hk2 _ _ e2
    refine q_can g hc hk hk2 ?_
    rw [g.2.2.1 c k hc hk, g.2.2.1 c k2 hc hk2]
    exact e2
theorem q_Us_cnt {h : Nat} {J : Nat → Nat → Nat} {K : Nat → Prop} {x t : Nat} (g : q_Gp h J) (hK : q_Sb h J K) (hx : x < h) (hmin : ∀ m, 0 < m → m < t → ¬ K (q_pw J x m)) : ∀ s, s ≤ t → q_cnt (q_Us h J K x s) h = s * q_cnt K h
  | 0, _ => by
    rw [Nat.zero_mul]
    refine Nat.le_zero.mp ?_
    have : q_cnt (q_Us h J K x 0) h ≤ q_cnt (fun _ => False) h := q_cnt_le h (fun i _ ⟨j, hj, _⟩ => by omega)
    have e : ∀ n, q_cnt (fun _ => False) n = 0 := by
      intro n
      induction n with
      | zero => rfl
      | succ n ih => rw [q_cnt_no (fun q => q), ih]
    rw [e] at this
    exact this
  | s + 1, hs => by
    have ih := q_Us_cnt g hK hx hmin s (by omega)
    have e1 : q_cnt (q_Us h J K x (s + 1)) h = q_cnt (fun y => q_Us h J K x s y ∨ q_Cs1 h J K (q_pw J x s) y) h := by
      refine q_cnt_ext (fun y _ => ⟨?_, ?_⟩)
      · rintro ⟨j, hj, hc⟩
        rcases Nat.lt_or_ge j s with q | q
        · exact Or.inl ⟨j, q, hc⟩
        · have : j = s := by omega
          subst this
          exact Or.inr hc
      · rintro (⟨j, hj, hc⟩ | hc)
        · exact ⟨j, by omega, hc⟩
        · exact ⟨s, by omega, hc⟩
    rw [e1, q_cnt_or, ih, q_Cs1_cnt g (q_pw_lt g hx s), Nat.succ_mul]
    rintro y hy ⟨⟨j, hj, k, k1, k2, ek⟩, ⟨l, l1, l2, el⟩⟩
    -- k x^j = l x^s
    have h1 := q_pw_add g hx j (s - j)
    rw [show j + (s - j) = s by omega] at h1
    have hj1 := q_pw_lt g hx j
    have hj2 := q_pw_lt g hx (s - j)
    have h2 : J (q_pw J x j) k = J (q_pw J x j) (J l (q_pw J x (s - j))) := by
      rw [g.2.2.1 _ k hj1 k1, ← ek, el, h1, ← g.2.2.2.1 _ l _ hj1 l1 hj2, g.2.2.1 _ l hj1 l1, g.2.2.2.1 l _ _ l1 hj1 hj2]
    have h3 := q_can g hj1 k1 (g.2.1 _ _ l1 hj2) h2
    rw [h3] at k2
    exact hmin (s - j) (by omega) (by omega) (q_Sb_can g hK l1 hj2 l2 k2)
theorem q_Us_Sb {h : Nat} {J : Nat → Nat → Nat} {K : Nat → Prop} {x t : Nat} (g : q_Gp h J) (hK : q_Sb h J K) (hx : x < h) (ht : 0 < t) (hxt : K (q_pw J x t)) : q_Sb h J (q_Us h J K x t) := by
  refine ⟨⟨0, ht, 0, g.1, hK.1, (q_J0 g g.1).symm⟩, ?_⟩
  rintro i j hi hj ⟨a, ha, k, k1, k2, rfl⟩ ⟨b, hb, l, l1, l2, rfl⟩
  have pa := q_pw_lt g hx a
  have pb := q_pw_lt g hx b
  have kl := g.2.1 k l k1 l1
  rw [q_med g k1 pa l1 pb, ← q_pw_add g hx]
  rcases Nat.lt_or_ge (a + b) t with q | q
  · exact ⟨a + b, q, J k l, kl, hK.2 _ _ k1 l1 k2 l2, rfl⟩
  · have pt := q_pw_lt g hx t
    have pr := q_pw_lt g hx (a + b - t)
    refine ⟨a + b - t, by omega, J (J k l) (q_pw J x t), g.2.1 _ _ kl pt, hK.2 _ _ kl pt (hK.2 _ _ k1 l1 k2 l2) hxt, ?_⟩
    rw [g.2.2.2.1 _ _ _ kl pt pr, ← q_pw_add g hx, show t + (a + b - t) = a + b by omega]
theorem q_cnt_pos {h : Nat} {J : Nat → Nat → Nat} {K : Nat → Prop} (g : q_Gp h J) (hK : q_Sb h J K) : 0 < q_cnt K h := by
  rw [q_cnt_rem h g.1 hK.1]
  omega
/-- from K up to H -/
theorem q_chain {h : Nat} {J : Nat → Nat → Nat} {H : Nat → Prop} (g : q_Gp h J) (hH : q_Sb h J H) (Q : Nat → Prop) (Q1 : Q 1) (Qm : ∀ a b, Q a → Q b → Q (a * b)) : ∀ (n : Nat) (K : Nat → Prop), q_Sb h J K → (∀ i, i < h → K i → H i) → (∀ x, x < h → H x → ∃ m, K (q_pw J x m) ∧ ∀ t, t ∣ m → Q t) → q_cnt H h ≤ n + q_cnt K h → ∃ q, Q q ∧ q_cnt H h = q * q_cnt K h := by
  intro n
  induction n with
  | zero =>
    intro K hK hKH _ hn
    have h1 := q_cnt_le h hKH
    exact ⟨1, Q1, by omega⟩
  | succ n ih =>
    intro K hK hKH hQ hn
    by_cases c : ∃ x, x < h ∧ H x ∧ ¬ K x
    · obtain ⟨x, x1, x2, x3⟩ := c
      obtain ⟨s1, s2, -⟩ := q_or_spec g x1
      obtain ⟨t, -, ⟨t1, t2⟩, t3⟩ := q_leastN (P := fun m => 0 < m ∧ K (q_pw J x m)) (q_or J x) ⟨s1, by rw [s2]; exact hK.1⟩
      have hmin : ∀ m, 0 < m → m < t → ¬ K (q_pw J x m) := fun m m0 m1 m2 => t3 m m1 ⟨m0, m2⟩
      have ht2 : 2 ≤ t := by
        rcases Nat.lt_or_ge t 2 with q | q
        · have e : t = 1 := by omega
          rw [e, q_pw_1 g x1] at t2
          exact absurd t2 x3
        · exact q
      obtain ⟨m, m1, m2⟩ := hQ x x1 x2
      have htm : t ∣ m := by
        have h1 := Nat.div_add_mod m t
        have h2 := q_pw_add g x1 (t * (m / t)) (m % t)
        rw [h1] at h2
        rw [h2, ← q_pw_mul g x1] at m1
        have h3 := q_Sb_can g hK (q_pw_lt g (q_pw_lt g x1 t) _) (q_pw_lt g x1 _) (q_Sb_pw g hK (q_pw_lt g x1 t) t2 _) m1
        rcases Nat.eq_zero_or_pos (m % t) with q | q
        · exact Nat.dvd_of_mod_eq_zero q
        · exact absurd h3 (hmin _ q (Nat.mod_lt m t1))
      have hU := q_Us_Sb g hK x1 t1 t2
      have hc := q_Us_cnt g hK x1 hmin t (Nat.le_refl t)
      have hKU : ∀ i, i < h → K i → q_Us h J K x t i := fun i hi ki => ⟨0, t1, i, hi, ki, (q_J0 g hi).symm⟩
      have hUH : ∀ i, i < h → q_Us h J K x t i → H i := by
        rintro i hi ⟨j, hj, k, k1, k2, rfl⟩
        exact hH.2 _ _ k1 (q_pw_lt g x1 j) (hKH k k1 k2) (q_Sb_pw g hH x1 x2 j)
      have hp := q_cnt_pos g hK
      have h2c : 2 * q_cnt K h ≤ t * q_cnt K h := Nat.mul_le_mul_right _ ht2
      obtain ⟨q, q1, q2⟩ := ih (q_Us h J K x t) hU hUH (fun y y1 y2 => by
        obtain ⟨m, m1, m2⟩ := hQ y y1 y2
        exact ⟨m, hKU _ (q_pw_lt g y1 m) m1, m2⟩) (by omega)
      exact ⟨q * t, Qm _ _ q1 (m2 t htm), by rw [q2, hc, Nat.mul_assoc]⟩
    · have e : q_cnt H h = q_cnt K h := q_cnt_ext (fun i hi => ⟨fun a => Classical.byContradiction (fun b => c ⟨i, hi, a, b⟩), hKH i hi⟩)
      exact ⟨1, Q1, by omega⟩
/-- a prime -/
def q_pr (p : Nat) : Prop := 2 ≤ p ∧ ∀ a, a ∣ p → a = 1 ∨ a = p
theorem q_pr_cop {p a : Nat} (hp : q_pr p) (h : ¬ p ∣ a) : Nat.Coprime p a := by
  rcases hp.2 _ (Nat.gcd_dvd_left p a) with e | e
  · exact e
  · exfalso
    have := Nat.gcd_dvd_right p a
    rw [e] at this
    exact h this
theorem q_pr_mul {p a b : Nat} (hp : q_pr p) (ha : ¬ p ∣ a) (hb : ¬ p ∣ b) : ¬ p ∣ a * b := fun h => hb ((q_pr_cop hp ha).dvd_of_dvd_mul_left h)
theorem q_dvd_pp {p t : Nat} (hp : q_pr p) : ∀ k, t ∣ p ^ k → ∃ a, t = p ^ a := by
  intro k
  induction k generalizing t with
  | zero =>
    intro h
    exact ⟨0, Nat.dvd_one.mp h⟩
  | succ k ih =>
    intro h
    rw [Nat.pow_succ] at h
    by_cases c : p ∣ t
    · obtain ⟨u, rfl⟩ := c
      rw [Nat.mul_comm (p ^ k) p] at h
      obtain ⟨a, rfl⟩ := ih (Nat.dvd_of_mul_dvd_mul_left (show 0 < p by have := hp.1; omega) h)
      exact ⟨a + 1, by rw [Nat.pow_succ, Nat.mul_comm]⟩
    · exact ih ((Nat.Coprime.symm (q_pr_cop hp c)).dvd_of_dvd_mul_right h)
theorem q_split {p : Nat} (hp : q_pr p) : ∀ n, 0 < n → ∃ s m, n = p ^ s * m ∧ ¬ p ∣ m := by
  intro n
  induction n using Nat.strongRecOn with
  | ind n ih =>
    intro hn
    by_cases c : p ∣ n
    · obtain ⟨u, rfl⟩ := c
      have hu : 0 < u := Nat.pos_of_mul_pos_left hn
      have hlt : u < p * u := by
        have := Nat.mul_le_mul_right u hp.1
        omega
      obtain ⟨s, m, e, hm⟩ := ih u hlt hu
      refine ⟨s + 1, m, ?_, hm⟩
      rw [Nat.pow_succ, Nat.mul_comm (p ^ s) p, Nat.mul_assoc, ← e]
    · exact ⟨0, n, by rw [Nat.pow_zero, Nat.one_mul], c⟩
/-- how many classes have the m-th power ONE -/
noncomputable def q_Nm (h : Nat) (J : Nat → Nat → Nat) (m : Nat) : Nat := q_cnt (fun i => q_pw J i m = 0) h
theorem q_Nm_Sb {h : Nat} {J : Nat → Nat → Nat} (g : q_Gp h J) (m : Nat) : q_Sb h J (fun i => q_pw J i m = 0) := by
  refine ⟨q_pw_0 g m, fun i j hi hj a b => ?_⟩
  show q_pw J (J i j) m = 0
  rw [q_pw_J g hi hj, show q_pw J i m = 0 from a, show q_pw J j m = 0 from b]
  exact q_J0 g g.1
theorem q_one_Sb {h : Nat} {J : Nat → Nat → Nat} (g : q_Gp h J) : q_Sb h J (fun i => i = 0) := ⟨rfl, fun i j _ _ a b => by rw [a, b]; exact q_J0 g g.1⟩
theorem q_all_Sb {h : Nat} {J : Nat → Nat → Nat} : q_Sb h J (fun _ => True) := ⟨trivial, fun _ _ _ _ _ _ => trivial⟩
theorem q_Nm_pos {h : Nat} {J : Nat → Nat → Nat} (g : q_Gp h J) (m : Nat) : 0 < q_Nm h J m := q_cnt_pos g (q_Nm_Sb g m)
theorem q_cnt_one {h : Nat} (h0 : 0 < h) : q_cnt (fun i => i = 0) h = 1 := by
  rw [q_cnt_rem (P := fun i => i = 0) h h0 rfl]
  have e : q_cnt (fun i => i = 0 ∧ i ≠ 0) h = q_cnt (fun _ => False) h := q_cnt_ext (fun i _ => ⟨fun x => x.2 x.1, fun x => x.elim⟩)
  have e2 : ∀ n, q_cnt (fun _ => False) n = 0 := by
    intro n
    induction n with
    | zero => rfl
    | succ n ih => rw [q_cnt_no (fun q => q), ih]
  rw [e, e2]
theorem q_Nm_1 {h : Nat} {J : Nat → Nat → Nat} (g : q_Gp h J) : q_Nm h J 1 = 1 := by
  unfold q_Nm
  rw [q_cnt_ext (P := fun i => q_pw J i 1 = 0) (Q := fun i => i = 0) (fun i hi => by show q_pw J i 1 = 0 ↔ i = 0; rw [q_pw_1 g hi]), q_cnt_one g.1]
/-- it divides h -/
theorem q_Nm_dvd {h : Nat} {J : Nat → Nat → Nat} (g : q_Gp h J) (m : Nat) : q_Nm h J m ∣ h := by
  obtain ⟨q, -, e⟩ := q_chain g q_all_Sb (fun _ => True) trivial (fun _ _ _ _ => trivial) h (fun i => q_pw J i m = 0) (q_Nm_Sb g m) (fun _ _ _ => trivial) (fun x hx _ => ⟨0, q_pw_0 g m, fun _ _ => trivial⟩) (by rw [q_cnt_all]; omega)
  rw [q_cnt_all] at e
  exact ⟨q, by rw [Nat.mul_comm]; exact e⟩
theorem q_Nm_pp {h p : Nat} {J : Nat → Nat → Nat} (g : q_Gp h J) (hp : q_pr p) (k : Nat) : ∃ a, q_Nm h J (p ^ k) = p ^ a := by
  obtain ⟨q, ⟨a, e⟩, e2⟩ := q_chain g (q_Nm_Sb g (p ^ k)) (fun q => ∃ a, q = p ^ a) ⟨0, rfl⟩ (fun x y ⟨a, ha⟩ ⟨b, hb⟩ => ⟨a + b, by rw [ha, hb, Nat.pow_add]⟩) (q_cnt (fun i => q_pw J i (p ^ k) = 0) h) (fun i => i = 0) (q_one_Sb g) (fun i _ e => by rw [show i = 0 from e]; exact q_pw_0 g _) (fun x hx hk => ⟨p ^ k, hk, fun t ht => q_dvd_pp hp k ht⟩) (by omega)
  rw [q_cnt_one g.1, Nat.mul_one, e] at e2
  exact ⟨a, e2⟩
theorem q_Nm_up {h p : Nat} {J : Nat → Nat → Nat} (g : q_Gp h J) (hp : q_pr p) (k : Nat) (hd : p * q_Nm h J (p ^ k) ∣ h) : q_Nm h J (p ^ k) < q_Nm h J (p ^ (k + 1)) := by
  have hle : ∀ i, i < h → q_pw J i (p ^ k) = 0 → q_pw J i (p ^ (k + 1)) = 0 := by
    intro i hi e
    rw [Nat.pow_succ, ← q_pw_mul g hi, e, q_pw_0 g]
  have h1 : q_Nm h J (p ^ k) ≤ q_Nm h J (p ^ (k + 1)) := q_cnt_le h hle
  rcases Nat.lt_or_ge (q_Nm h J (p ^ k)) (q_Nm h J (p ^ (k + 1))) with q | q
  · exact q
  · exfalso
    have hback := q_cnt_eq (P := fun i => q_pw J i (p ^ k) = 0) (Q := fun i => q_pw J i (p ^ (k + 1)) = 0) h hle (Nat.le_antisymm h1 q)
    -- what a power of p brings to ONE, the k-th does
    have all : ∀ s i, i < h → q_pw J i (p ^ s) = 0 → q_pw J i (p ^ k) = 0 := by
      intro s
      induction s with
      | zero =>
        intro i hi e
        have e : q_pw J i 1 = 0 := e
        rw [q_pw_1 g hi] at e
        rw [e]
        exact q_pw_0 g _
      | succ s ih =>
        intro i hi e
        rcases Nat.lt_or_ge s k with c | c
        · have h2 : k = (s + 1) + (k - (s + 1)) := by omega
          rw [h2, Nat.pow_add, ← q_pw_mul g hi, e, q_pw_0 g]
        · refine ih i hi ?_
          have h2 : p ^ (s + 1) = p ^ (s - k) * p ^ (k + 1) := by rw [← Nat.pow_add, show s - k + (k + 1) = s + 1 by omega]
          rw [h2, ← q_pw_mul g hi] at e
          have h3 := hback _ (q_pw_lt g hi _) e
          have h3 : q_pw J (q_pw J i (p ^ (s - k))) (p ^ k) = 0 := h3
          rw [q_pw_mul g hi, ← Nat.pow_add, show s - k + k = s by omega] at h3
          exact h3
    obtain ⟨q, q1, q2⟩ := q_chain g q_all_Sb (fun q => ¬ p ∣ q) (fun e => by have := Nat.le_of_dvd (by decide) e; have := hp.1; omega) (fun a b => q_pr_mul hp) h (fun i => q_pw J i (p ^ k) = 0) (q_Nm_Sb g _) (fun _ _ _ => trivial) (fun x hx _ => by
      obtain ⟨s1, s2, -⟩ := q_or_spec g hx
      obtain ⟨s, m, e, hm⟩ := q_split hp _ s1
      refine ⟨m, all s _ (q_pw_lt g hx m) ?_, fun t ht hpt => hm (Nat.dvd_trans hpt ht)⟩
      rw [q_pw_mul g hx, Nat.mul_comm, ← e]
      exact s2) (by rw [q_cnt_all]; omega)
    rw [q_cnt_all] at q2
    have q3 : h = q * q_Nm h J (p ^ k) := q2
    have hp0 := q_Nm_pos g (p ^ k)
    rw [q3] at hd
    exact q1 (Nat.dvd_of_mul_dvd_mul_right hp0 (by rw [← q3] at hd ⊢; exact hd))
