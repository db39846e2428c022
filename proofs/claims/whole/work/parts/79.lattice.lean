/-! lattices of x + y √d: products, multiples -/
def q_zm (d : Int) (x y : Int × Int) : Int × Int := (x.1 * y.1 + d * (x.2 * y.2), x.1 * y.2 + x.2 * y.1)
def q_zn (d : Int) (x : Int × Int) : Int := x.1 * x.1 - d * (x.2 * x.2)
abbrev q_zS : Type := Int × Int → Prop
def q_sg (S : q_zS) : Prop := S (0, 0) ∧ ∀ x y : Int × Int, S x → S y → S (x.1 - y.1, x.2 - y.2)
def q_sp (d : Int) (P Q : q_zS) : q_zS := fun z => ∀ S : q_zS, q_sg S → (∀ x y, P x → Q y → S (q_zm d x y)) → S z
def q_sk (d : Int) (k : Int × Int) (P : q_zS) : q_zS := fun z => ∃ x, P x ∧ z = q_zm d k x
/-- the lattice of a form -/
def q_La (f : q_f3) : q_zS := fun z => ∃ x y : Int, z = (2 * f.1 * x + f.2.1 * y, y)
theorem q_zm_comm (d : Int) (x y : Int × Int) : q_zm d x y = q_zm d y x := by
  refine Prod.ext ?_ ?_
  · show x.1 * y.1 + d * (x.2 * y.2) = y.1 * x.1 + d * (y.2 * x.2)
    grind
  · show x.1 * y.2 + x.2 * y.1 = y.1 * x.2 + y.2 * x.1
    grind
theorem q_zm_assoc (d : Int) (x y z : Int × Int) : q_zm d (q_zm d x y) z = q_zm d x (q_zm d y z) := by
  refine Prod.ext ?_ ?_
  · show (x.1 * y.1 + d * (x.2 * y.2)) * z.1 + d * ((x.1 * y.2 + x.2 * y.1) * z.2) = x.1 * (y.1 * z.1 + d * (y.2 * z.2)) + d * (x.2 * (y.1 * z.2 + y.2 * z.1))
    grind
  · show (x.1 * y.1 + d * (x.2 * y.2)) * z.2 + (x.1 * y.2 + x.2 * y.1) * z.1 = x.1 * (y.1 * z.2 + y.2 * z.1) + x.2 * (y.1 * z.1 + d * (y.2 * z.2))
    grind
theorem q_zn_mul (d : Int) (x y : Int × Int) : q_zn d (q_zm d x y) = q_zn d x * q_zn d y := by
  show (x.1 * y.1 + d * (x.2 * y.2)) * (x.1 * y.1 + d * (x.2 * y.2)) - d * ((x.1 * y.2 + x.2 * y.1) * (x.1 * y.2 + x.2 * y.1)) = (x.1 * x.1 - d * (x.2 * x.2)) * (y.1 * y.1 - d * (y.2 * y.2))
  grind
theorem q_zm_sub (d : Int) (k x y : Int × Int) : q_zm d k (x.1 - y.1, x.2 - y.2) = ((q_zm d k x).1 - (q_zm d k y).1, (q_zm d k x).2 - (q_zm d k y).2) := by
  refine Prod.ext ?_ ?_
  · show k.1 * (x.1 - y.1) + d * (k.2 * (x.2 - y.2)) = (k.1 * x.1 + d * (k.2 * x.2)) - (k.1 * y.1 + d * (k.2 * y.2))
    grind
  · show k.1 * (x.2 - y.2) + k.2 * (x.1 - y.1) = (k.1 * x.2 + k.2 * x.1) - (k.1 * y.2 + k.2 * y.1)
    grind
theorem q_zm_0 (d : Int) (k : Int × Int) : q_zm d k (0, 0) = (0, 0) := by
  refine Prod.ext ?_ ?_
  · show k.1 * 0 + d * (k.2 * 0) = 0
    grind
  · show k.1 * 0 + k.2 * 0 = 0
    grind
theorem q_sg_neg {S : q_zS} (h : q_sg S) {x : Int × Int} (hx : S x) : S (-x.1, -x.2) := by
  have h1 := h.2 (0, 0) x h.1 hx
  have e : ((0, 0) : Int × Int).1 - x.1 = -x.1 := Int.zero_sub _
  have e2 : ((0, 0) : Int × Int).2 - x.2 = -x.2 := Int.zero_sub _
  rw [e, e2] at h1
  exact h1
theorem q_sg_add {S : q_zS} (h : q_sg S) {x y : Int × Int} (hx : S x) (hy : S y) : S (x.1 + y.1, x.2 + y.2) := by
  have h1 := h.2 x _ hx (q_sg_neg h hy)
  have e : x.1 - (-y.1, -y.2).1 = x.1 + y.1 := Int.sub_neg _ _
  have e2 : x.2 - (-y.1, -y.2).2 = x.2 + y.2 := Int.sub_neg _ _
  rw [e, e2] at h1
  exact h1
theorem q_sg_muln {S : q_zS} (h : q_sg S) {x : Int × Int} (hx : S x) : ∀ n : Nat, S ((n : Int) * x.1, (n : Int) * x.2)
  | 0 => by
    rw [show ((0 : Nat) : Int) = 0 from rfl, Int.zero_mul, Int.zero_mul]
    exact h.1
  | n + 1 => by
    have h1 := q_sg_add h (q_sg_muln h hx n) hx
    have e : (((n : Int) * x.1, (n : Int) * x.2) : Int × Int).1 + x.1 = ((n + 1 : Nat) : Int) * x.1 := by
      show (n : Int) * x.1 + x.1 = ((n : Int) + 1) * x.1
      grind
    have e2 : (((n : Int) * x.1, (n : Int) * x.2) : Int × Int).2 + x.2 = ((n + 1 : Nat) : Int) * x.2 := by
      show (n : Int) * x.2 + x.2 = ((n : Int) + 1) * x.2
      grind
    rw [e, e2] at h1
    exact h1
theorem q_sg_mul {S : q_zS} (h : q_sg S) {x : Int × Int} (hx : S x) (n : Int) : S (n * x.1, n * x.2) := by
  obtain ⟨m, hm⟩ := Int.eq_nat_or_neg n
  rcases hm with rfl | rfl
  · exact q_sg_muln h hx m
  · have h1 := q_sg_neg h (q_sg_muln h hx m)
    rw [Int.neg_mul, Int.neg_mul]
    exact h1
theorem q_sg_pre {S : q_zS} {d : Int} {k : Int × Int} (h : q_sg S) : q_sg (fun w => S (q_zm d k w)) :=
  ⟨by show S (q_zm d k (0, 0)); rw [q_zm_0]; exact h.1, fun x y hx hy => by show S (q_zm d k (x.1 - y.1, x.2 - y.2)); rw [q_zm_sub]; exact h.2 _ _ hx hy⟩
theorem q_sk_sg {P : q_zS} {d : Int} {k : Int × Int} (h : q_sg P) : q_sg (q_sk d k P) :=
  ⟨⟨(0, 0), h.1, (q_zm_0 d k).symm⟩, fun x y ⟨u, hu, eu⟩ ⟨v, hv, ev⟩ => ⟨_, h.2 u v hu hv, by rw [q_zm_sub, eu, ev]⟩⟩
theorem q_sp_sg (d : Int) (P Q : q_zS) : q_sg (q_sp d P Q) := ⟨fun _ hS _ => hS.1, fun x y hx hy S hS h => hS.2 x y (hx S hS h) (hy S hS h)⟩
theorem q_sp_comm (d : Int) (P Q : q_zS) : q_sp d P Q = q_sp d Q P := by
  funext z
  refine propext ⟨fun hz S hS h => hz S hS (fun x y hx hy => ?_), fun hz S hS h => hz S hS (fun x y hx hy => ?_)⟩
  · rw [q_zm_comm]
    exact h y x hy hx
  · rw [q_zm_comm]
    exact h y x hy hx
theorem q_sp_assoc (d : Int) (P Q K : q_zS) : q_sp d (q_sp d P Q) K = q_sp d P (q_sp d Q K) := by
  funext z
  refine propext ⟨fun hz S hS h => hz S hS (fun u k hu hk => ?_), fun hz S hS h => hz S hS (fun x w hx hw => ?_)⟩
  · rw [q_zm_comm]
    refine hu (fun w => S (q_zm d k w)) (q_sg_pre hS) (fun x y hx hy => ?_)
    show S (q_zm d k (q_zm d x y))
    rw [q_zm_comm, q_zm_assoc]
    exact h x _ hx (fun S2 _ h2 => h2 y k hy hk)
  · refine hw (fun w => S (q_zm d x w)) (q_sg_pre hS) (fun y k hy hk => ?_)
    show S (q_zm d x (q_zm d y k))
    rw [← q_zm_assoc]
    exact h _ k (fun S2 _ h2 => h2 x y hx hy) hk
theorem q_sk_sp (d : Int) (k : Int × Int) (P Q : q_zS) : q_sp d (q_sk d k P) Q = q_sk d k (q_sp d P Q) := by
  funext z
  refine propext ⟨fun hz => ?_, fun hz S hS h => ?_⟩
  · refine hz _ (q_sk_sg (q_sp_sg d P Q)) (fun x y hx hy => ?_)
    obtain ⟨u, hu, rfl⟩ := hx
    exact ⟨q_zm d u y, fun S2 _ h2 => h2 u y hu hy, q_zm_assoc d k u y⟩
  · obtain ⟨w, hw, rfl⟩ := hz
    refine hw (fun w => S (q_zm d k w)) (q_sg_pre hS) (fun x y hx hy => ?_)
    show S (q_zm d k (q_zm d x y))
    rw [← q_zm_assoc]
    exact h _ y ⟨x, hx, rfl⟩ hy
theorem q_sk_sk (d : Int) (k l : Int × Int) (P : q_zS) : q_sk d k (q_sk d l P) = q_sk d (q_zm d k l) P := by
  funext z
  refine propext ⟨fun ⟨x, ⟨w, hw, e1⟩, e2⟩ => ⟨w, hw, by rw [e2, e1, q_zm_assoc]⟩, fun ⟨w, hw, e⟩ => ⟨q_zm d l w, ⟨w, hw, rfl⟩, by rw [e, q_zm_assoc]⟩⟩
/-- two lattices have one class -/
def q_eqv (d : Int) (P Q : q_zS) : Prop := ∃ k l : Int × Int, 0 < q_zn d k ∧ 0 < q_zn d l ∧ q_sk d k P = q_sk d l Q
theorem q_eqv_rfl (d : Int) (P : q_zS) : q_eqv d P P := ⟨(1, 0), (1, 0), by show (0 : Int) < 1 * 1 - d * (0 * 0); simp, by show (0 : Int) < 1 * 1 - d * (0 * 0); simp, rfl⟩
theorem q_eqv_symm {d : Int} {P Q : q_zS} (h : q_eqv d P Q) : q_eqv d Q P := by
  obtain ⟨k, l, h1, h2, h3⟩ := h
  exact ⟨l, k, h2, h1, h3.symm⟩
theorem q_eqv_trans {d : Int} {P Q K : q_zS} (h : q_eqv d P Q) (h2 : q_eqv d Q K) : q_eqv d P K := by
  obtain ⟨k, l, a1, a2, a3⟩ := h
  obtain ⟨k2, l2, b1, b2, b3⟩ := h2
  refine ⟨q_zm d k2 k, q_zm d l l2, by rw [q_zn_mul]; exact Int.mul_pos b1 a1, by rw [q_zn_mul]; exact Int.mul_pos a2 b2, ?_⟩
  rw [← q_sk_sk, a3, q_sk_sk, q_zm_comm, ← q_sk_sk, b3, q_sk_sk]
theorem q_eqv_sp {d : Int} {P P2 : q_zS} (Q : q_zS) (h : q_eqv d P P2) : q_eqv d (q_sp d P Q) (q_sp d P2 Q) := by
  obtain ⟨k, l, a1, a2, a3⟩ := h
  exact ⟨k, l, a1, a2, by rw [← q_sk_sp, a3, q_sk_sp]⟩
theorem q_eqv_sp2 {d : Int} {P P2 : q_zS} (Q : q_zS) (h : q_eqv d P P2) : q_eqv d (q_sp d Q P) (q_sp d Q P2) := by
  rw [q_sp_comm d Q P, q_sp_comm d Q P2]
  exact q_eqv_sp Q h
/-- what holds of a and b, and of differences, holds of their greatest common divisor -/
theorem q_T_mul {T : Int → Prop} (h0 : T 0) (hs : ∀ x y, T x → T y → T (x - y)) {x : Int} (hx : T x) (n : Int) : T (n * x) :=
  q_sg_mul (S := fun z => T z.1) ⟨h0, fun a b ha hb => hs _ _ ha hb⟩ (x := (x, 0)) hx n
theorem q_T_gcdn {T : Int → Prop} (h0 : T 0) (hs : ∀ x y, T x → T y → T (x - y)) (m n : Nat) : T (m : Int) → T (n : Int) → T ((Nat.gcd m n : Nat) : Int) := by
  refine Nat.gcd.induction (P := fun m n => T (m : Int) → T (n : Int) → T ((Nat.gcd m n : Nat) : Int)) m n ?_ ?_
  · intro n _ hn
    rw [Nat.gcd_zero_left]
    exact hn
  · intro m n _ ih hm hn
    rw [Nat.gcd_rec]
    refine ih ?_ hm
    have h1 := hs _ _ hn (q_T_mul h0 hs hm ((n / m : Nat) : Int))
    have h2 := Nat.mod_add_div n m
    have h3 : (((n / m : Nat) : Int)) * (m : Int) = ((m * (n / m) : Nat) : Int) := by
      rw [Nat.mul_comm]
      rfl
    have h4 : ((n % m : Nat) : Int) = (n : Int) - ((n / m : Nat) : Int) * (m : Int) := by
      rw [h3]
      omega
    rw [h4]
    exact h1
theorem q_T_gcd {T : Int → Prop} (h0 : T 0) (hs : ∀ x y, T x → T y → T (x - y)) {a b : Int} (ha : T a) (hb : T b) : T ((Int.gcd a b : Nat) : Int) := by
  have ab : ∀ x : Int, T x → T ((x.natAbs : Nat) : Int) := by
    intro x hx
    rcases Int.natAbs_eq x with e | e
    · rw [← e]
      exact hx
    · have h1 := hs 0 x h0 hx
      rw [show ((x.natAbs : Nat) : Int) = 0 - x by omega]
      exact h1
  exact q_T_gcdn h0 hs _ _ (ab a ha) (ab b hb)
