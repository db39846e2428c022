/-! lattices of forms: products, classes -/
theorem q_La_sg (f : q_f3) : q_sg (q_La f) := by
  refine ⟨⟨0, 0, ?_⟩, ?_⟩
  · rw [Int.mul_zero, Int.mul_zero]
    rfl
  · rintro x y ⟨m, n, rfl⟩ ⟨u, v, rfl⟩
    refine ⟨m - u, n - v, Prod.ext ?_ rfl⟩
    show 2 * f.1 * m + f.2.1 * n - (2 * f.1 * u + f.2.1 * v) = 2 * f.1 * (m - u) + f.2.1 * (n - v)
    grind
theorem q_sg_comb {V : q_zS} (hV : q_sg V) {x y : Int × Int} (hx : V x) (hy : V y) (m n : Int) : V (m * x.1 + n * y.1, m * x.2 + n * y.2) := q_sg_add hV (q_sg_mul hV hx m) (q_sg_mul hV hy n)
theorem q_gen4 {V : q_zS} (hV : q_sg V) {e α β σ k r t : Int} (w1 : V (e, 0)) (w2 : V (-k, α)) (w3 : V (r, β)) (w4 : V (-t, σ)) (hP : Int.gcd (Int.gcd (e * α) (e * σ + (β * k + α * r))) (σ * r + β * t) = 1) (X Y : Int) : V (X, Y) := by
  obtain ⟨T, hT⟩ : ∃ T : Int → Prop, T = fun n => V (n * X, n * Y) := ⟨_, rfl⟩
  have T0 : T 0 := by
    rw [hT]
    show V (0 * X, 0 * Y)
    rw [Int.zero_mul, Int.zero_mul]
    exact hV.1
  have Ts : ∀ x y, T x → T y → T (x - y) := by
    intro x y hx hy
    rw [hT] at hx hy ⊢
    have h1 := hV.2 _ _ hx hy
    show V ((x - y) * X, (x - y) * Y)
    rw [Int.sub_mul, Int.sub_mul]
    exact h1
  have mk : ∀ n a b : Int, V (a, b) → a = n * X → b = n * Y → T n := by
    intro n a b h e1 e2
    rw [hT]
    show V (n * X, n * Y)
    rw [← e1, ← e2]
    exact h
  have t1 : T (e * α) := mk _ _ _ (q_sg_comb hV w1 w2 (α * X + k * Y) (e * Y)) (by show (α * X + k * Y) * e + e * Y * -k = e * α * X; grind) (by show (α * X + k * Y) * 0 + e * Y * α = e * α * Y; grind)
  have t2 : T (σ * r + β * t) := mk _ _ _ (q_sg_comb hV w3 w4 (X * σ + Y * t) (r * Y - β * X)) (by show (X * σ + Y * t) * r + (r * Y - β * X) * -t = (σ * r + β * t) * X; grind) (by show (X * σ + Y * t) * β + (r * Y - β * X) * σ = (σ * r + β * t) * Y; grind)
  have t3 : T (e * σ) := mk _ _ _ (q_sg_comb hV w1 w4 (X * σ + Y * t) (e * Y)) (by show (X * σ + Y * t) * e + e * Y * -t = e * σ * X; grind) (by show (X * σ + Y * t) * 0 + e * Y * σ = e * σ * Y; grind)
  have t4 : T (-(β * k + α * r)) := mk _ _ _ (q_sg_comb hV w2 w3 (X * β - Y * r) (-(k * Y) - α * X)) (by show (X * β - Y * r) * -k + (-(k * Y) - α * X) * r = -(β * k + α * r) * X; grind) (by show (X * β - Y * r) * α + (-(k * Y) - α * X) * β = -(β * k + α * r) * Y; grind)
  have t5 : T (e * σ + (β * k + α * r)) := by
    have h1 := Ts _ _ t3 t4
    rw [Int.sub_neg] at h1
    exact h1
  have t6 := q_T_gcd T0 Ts (q_T_gcd T0 Ts t1 t5) t2
  rw [hP, hT] at t6
  have t7 : V (((1 : Nat) : Int) * X, ((1 : Nat) : Int) * Y) := t6
  rw [show ((1 : Nat) : Int) = 1 from rfl, Int.one_mul, Int.one_mul] at t7
  exact t7
theorem q_La_prod {d e α β σ k r t : Int} (hD : (e * σ - (β * k + α * r)) * (e * σ - (β * k + α * r)) - 4 * (e * β) * (α * t - σ * k) = d) (m n u v : Int) : q_zm d (2 * (e * α) * m + (e * σ + (β * k + α * r)) * n, n) (2 * (e * β) * u + (e * σ - (β * k + α * r)) * v, v) = q_zm d (2 * e, 0) (2 * (α * β) * (e * (m * u) - k * (m * v) + r * (n * u) - t * (n * v)) + (e * σ + β * k - α * r) * (α * (m * v) + β * (n * u) + σ * (n * v)), α * (m * v) + β * (n * u) + σ * (n * v)) := by
  subst hD
  refine Prod.ext ?_ ?_
  · show (2 * (e * α) * m + (e * σ + (β * k + α * r)) * n) * (2 * (e * β) * u + (e * σ - (β * k + α * r)) * v) + ((e * σ - (β * k + α * r)) * (e * σ - (β * k + α * r)) - 4 * (e * β) * (α * t - σ * k)) * (n * v) = 2 * e * (2 * (α * β) * (e * (m * u) - k * (m * v) + r * (n * u) - t * (n * v)) + (e * σ + β * k - α * r) * (α * (m * v) + β * (n * u) + σ * (n * v))) + ((e * σ - (β * k + α * r)) * (e * σ - (β * k + α * r)) - 4 * (e * β) * (α * t - σ * k)) * (0 * (α * (m * v) + β * (n * u) + σ * (n * v)))
    grind
  · show (2 * (e * α) * m + (e * σ + (β * k + α * r)) * n) * v + n * (2 * (e * β) * u + (e * σ - (β * k + α * r)) * v) = 2 * e * (α * (m * v) + β * (n * u) + σ * (n * v)) + 0 * (2 * (α * β) * (e * (m * u) - k * (m * v) + r * (n * u) - t * (n * v)) + (e * σ + β * k - α * r) * (α * (m * v) + β * (n * u) + σ * (n * v)))
    grind
theorem q_La_mul {d e α β σ k r t : Int} (hD : (q_cf2 e α β σ k r t).2.1 * (q_cf2 e α β σ k r t).2.1 - 4 * (q_cf2 e α β σ k r t).1 * (q_cf2 e α β σ k r t).2.2 = d) (hP : Int.gcd (Int.gcd (q_cf1 e α β σ k r t).1 (q_cf1 e α β σ k r t).2.1) (q_cf1 e α β σ k r t).2.2 = 1) : q_sp d (q_La (q_cf1 e α β σ k r t)) (q_La (q_cf2 e α β σ k r t)) = q_sk d (2 * e, 0) (q_La (q_cf3 e α β σ k r t)) := by
  have hprod := q_La_prod (d := d) (e := e) (α := α) (β := β) (σ := σ) (k := k) (r := r) (t := t) hD
  funext z
  refine propext ⟨fun hz => ?_, fun hz S hS h => ?_⟩
  · refine hz _ (q_sk_sg (q_La_sg _)) ?_
    rintro x y ⟨m, n, rfl⟩ ⟨u, v, rfl⟩
    exact ⟨_, ⟨e * (m * u) - k * (m * v) + r * (n * u) - t * (n * v), α * (m * v) + β * (n * u) + σ * (n * v), rfl⟩, hprod m n u v⟩
  · obtain ⟨w, ⟨X, Y, rfl⟩, rfl⟩ := hz
    obtain ⟨V, hVd⟩ : ∃ V : q_zS, V = fun p => S (q_zm d (2 * e, 0) (2 * (α * β) * p.1 + (e * σ + β * k - α * r) * p.2, p.2)) := ⟨_, rfl⟩
    have hV : q_sg V := by
      rw [hVd]
      refine ⟨?_, fun x y hx hy => ?_⟩
      · show S (q_zm d (2 * e, 0) (2 * (α * β) * 0 + (e * σ + β * k - α * r) * 0, 0))
        rw [Int.mul_zero, Int.mul_zero, show ((0 : Int) + 0, (0 : Int)) = (0, 0) from rfl, q_zm_0]
        exact hS.1
      · show S (q_zm d (2 * e, 0) (2 * (α * β) * (x.1 - y.1) + (e * σ + β * k - α * r) * (x.2 - y.2), x.2 - y.2))
        have e1 : 2 * (α * β) * (x.1 - y.1) + (e * σ + β * k - α * r) * (x.2 - y.2) = (2 * (α * β) * x.1 + (e * σ + β * k - α * r) * x.2) - (2 * (α * β) * y.1 + (e * σ + β * k - α * r) * y.2) := by grind
        rw [e1]
        have h1 := hS.2 _ _ hx hy
        rw [← q_zm_sub] at h1
        exact h1
    have mk : ∀ m n u v x y : Int, x = e * (m * u) - k * (m * v) + r * (n * u) - t * (n * v) → y = α * (m * v) + β * (n * u) + σ * (n * v) → V (x, y) := by
      intro m n u v x y ex ey
      rw [hVd, ex, ey]
      show S (q_zm d (2 * e, 0) _)
      have h1 := h _ _ ⟨m, n, rfl⟩ ⟨u, v, rfl⟩
      have h2 := hprod m n u v
      rw [show q_zm d (2 * (q_cf1 e α β σ k r t).1 * m + (q_cf1 e α β σ k r t).2.1 * n, n) (2 * (q_cf2 e α β σ k r t).1 * u + (q_cf2 e α β σ k r t).2.1 * v, v) = _ from h2] at h1
      exact h1
    have key := q_gen4 hV (e := e) (α := α) (β := β) (σ := σ) (k := k) (r := r) (t := t) (mk 1 0 1 0 _ _ (by omega) (by omega)) (mk 1 0 0 1 _ _ (by omega) (by omega)) (mk 0 1 1 0 _ _ (by omega) (by omega)) (mk 0 1 0 1 _ _ (by omega) (by omega)) hP X Y
    rw [hVd] at key
    exact key
/-- forms that lead to each other have lattices of one class -/
theorem q_La_led {d : Int} {f g : q_f3} (hf : f.2.1 * f.2.1 - 4 * f.1 * f.2.2 = d) (ha : 0 < f.1) (hb : 0 < g.1) (h : q_led f g) : q_eqv d (q_La g) (q_La f) := by
  obtain ⟨p, q, r, s, e1, e2, e3, e4⟩ := h
  obtain ⟨a, b, c⟩ := f
  obtain ⟨a2, b2, c2⟩ := g
  have hf : b * b - 4 * a * c = d := hf
  have ha : 0 < a := ha
  have hb : 0 < a2 := hb
  have e2 : a2 = a * (p * p) + b * (p * r) + c * (r * r) := e2
  have e3 : b2 = 2 * a * (p * q) + b * (p * s + q * r) + 2 * c * (r * s) := e3
  have id1 : ∀ x y : Int, q_zm d (2 * a, 0) (2 * a2 * x + b2 * y, y) = q_zm d (2 * a * p + b * r, -r) (2 * a * (p * x + q * y) + b * (r * x + s * y), r * x + s * y) := by
    intro x y
    refine Prod.ext ?_ ?_
    · show 2 * a * (2 * a2 * x + b2 * y) + d * (0 * y) = (2 * a * p + b * r) * (2 * a * (p * x + q * y) + b * (r * x + s * y)) + d * (-r * (r * x + s * y))
      rw [e2, e3, ← hf]
      grind
    · show 2 * a * y + 0 * (2 * a2 * x + b2 * y) = (2 * a * p + b * r) * (r * x + s * y) + -r * (2 * a * (p * x + q * y) + b * (r * x + s * y))
      have : 2 * a * y = 2 * a * y * (p * s - q * r) := by rw [e1, Int.mul_one]
      grind
  refine ⟨(2 * a, 0), (2 * a * p + b * r, -r), ?_, ?_, ?_⟩
  · show 0 < 2 * a * (2 * a) - d * (0 * 0)
    have := Int.mul_pos (show 0 < 2 * a by omega) (show 0 < 2 * a by omega)
    omega
  · show 0 < (2 * a * p + b * r) * (2 * a * p + b * r) - d * (-r * -r)
    have e : (2 * a * p + b * r) * (2 * a * p + b * r) - d * (-r * -r) = 4 * a * a2 := by
      rw [e2, ← hf]
      grind
    rw [e]
    exact Int.mul_pos (by omega) hb
  · funext z
    refine propext ⟨?_, ?_⟩
    · rintro ⟨w, ⟨x, y, rfl⟩, rfl⟩
      exact ⟨_, ⟨p * x + q * y, r * x + s * y, rfl⟩, id1 x y⟩
    · rintro ⟨w, ⟨x, y, rfl⟩, rfl⟩
      refine ⟨_, ⟨s * x - q * y, p * y - r * x, rfl⟩, ?_⟩
      show _ = q_zm d (2 * a, 0) (2 * a2 * (s * x - q * y) + b2 * (p * y - r * x), p * y - r * x)
      rw [id1 (s * x - q * y) (p * y - r * x)]
      have x1 : p * (s * x - q * y) + q * (p * y - r * x) = x := by
        have : x = x * (p * s - q * r) := by rw [e1, Int.mul_one]
        grind
      have x2 : r * (s * x - q * y) + s * (p * y - r * x) = y := by
        have : y = y * (p * s - q * r) := by rw [e1, Int.mul_one]
        grind
      rw [x1, x2]
/-- one lattice within the other: what its basis says -/
theorem q_La_in {d : Int} {f g : q_f3} {k l : Int × Int} (hf : f.2.1 * f.2.1 - 4 * f.1 * f.2.2 = d) (hg : g.2.1 * g.2.1 - 4 * g.1 * g.2.2 = d) (h : ∀ z, q_sk d k (q_La f) z → q_sk d l (q_La g) z) : ∃ p q r s : Int, q_zn d k * f.1 = q_zn d l * g.1 * (p * s - q * r) ∧ q_zn d k * f.1 * f.1 = q_zn d l * g.1 * (q_act g p q r s).1 ∧ q_zn d k * f.1 * f.2.1 = q_zn d l * g.1 * (q_act g p q r s).2.1 ∧ q_zn d k * f.1 * f.2.2 = q_zn d l * g.1 * (q_act g p q r s).2.2 := by
  obtain ⟨a, b, c⟩ := f
  obtain ⟨a2, b2, c2⟩ := g
  obtain ⟨k1, k2⟩ := k
  obtain ⟨l1, l2⟩ := l
  have hf : b * b - 4 * a * c = d := hf
  have hg : b2 * b2 - 4 * a2 * c2 = d := hg
  obtain ⟨w, ⟨p, r, rfl⟩, h1⟩ := h (q_zm d (k1, k2) (2 * a, 0)) ⟨(2 * a, 0), ⟨1, 0, Prod.ext (by show 2 * a = 2 * a * 1 + b * 0; omega) rfl⟩, rfl⟩
  obtain ⟨w, ⟨q, s, rfl⟩, h2⟩ := h (q_zm d (k1, k2) (b, 1)) ⟨(b, 1), ⟨0, 1, Prod.ext (by show b = 2 * a * 0 + b * 1; omega) rfl⟩, rfl⟩
  have x1 : k1 * (2 * a) + d * (k2 * 0) = l1 * (2 * a2 * p + b2 * r) + d * (l2 * r) := congrArg Prod.fst h1
  have x2 : k1 * 0 + k2 * (2 * a) = l1 * r + l2 * (2 * a2 * p + b2 * r) := congrArg Prod.snd h1
  have y1 : k1 * b + d * (k2 * 1) = l1 * (2 * a2 * q + b2 * s) + d * (l2 * s) := congrArg Prod.fst h2
  have y2 : k1 * 1 + k2 * b = l1 * s + l2 * (2 * a2 * q + b2 * s) := congrArg Prod.snd h2
  obtain ⟨X1, hX1⟩ : ∃ X, X = k1 * (2 * a) + d * (k2 * 0) := ⟨_, rfl⟩
  obtain ⟨X2, hX2⟩ : ∃ X, X = k1 * 0 + k2 * (2 * a) := ⟨_, rfl⟩
  obtain ⟨Y1, hY1⟩ : ∃ X, X = k1 * b + d * (k2 * 1) := ⟨_, rfl⟩
  obtain ⟨Y2, hY2⟩ : ∃ X, X = k1 * 1 + k2 * b := ⟨_, rfl⟩
  have z1 := hX1.trans x1
  have z2 := hX2.trans x2
  have z3 := hY1.trans y1
  have z4 := hY2.trans y2
  refine ⟨p, q, r, s, ?_, ?_, ?_, ?_⟩
  · show (k1 * k1 - d * (k2 * k2)) * a = (l1 * l1 - d * (l2 * l2)) * a2 * (p * s - q * r)
    refine Int.eq_of_mul_eq_mul_left (show (2 : Int) ≠ 0 by decide) ?_
    have u1 : X1 * Y2 - X2 * Y1 = 2 * ((k1 * k1 - d * (k2 * k2)) * a) := by rw [hX1, hX2, hY1, hY2]; grind
    have u2 : X1 * Y2 - X2 * Y1 = 2 * ((l1 * l1 - d * (l2 * l2)) * a2 * (p * s - q * r)) := by rw [z1, z2, z3, z4]; grind
    rw [← u1, u2]
  · show (k1 * k1 - d * (k2 * k2)) * a * a = (l1 * l1 - d * (l2 * l2)) * a2 * (a2 * (p * p) + b2 * (p * r) + c2 * (r * r))
    refine Int.eq_of_mul_eq_mul_left (show (4 : Int) ≠ 0 by decide) ?_
    have u1 : X1 * X1 - d * (X2 * X2) = 4 * ((k1 * k1 - d * (k2 * k2)) * a * a) := by rw [hX1, hX2]; grind
    have u2 : X1 * X1 - d * (X2 * X2) = (l1 * l1 - d * (l2 * l2)) * ((2 * a2 * p + b2 * r) * (2 * a2 * p + b2 * r) - d * (r * r)) := by rw [z1, z2]; grind
    have u3 : (2 * a2 * p + b2 * r) * (2 * a2 * p + b2 * r) - d * (r * r) = 4 * (a2 * (a2 * (p * p) + b2 * (p * r) + c2 * (r * r))) := by rw [← hg]; grind
    rw [← u1, u2, u3]
    generalize a2 * (p * p) + b2 * (p * r) + c2 * (r * r) = W
    grind
  · show (k1 * k1 - d * (k2 * k2)) * a * b = (l1 * l1 - d * (l2 * l2)) * a2 * (2 * a2 * (p * q) + b2 * (p * s + q * r) + 2 * c2 * (r * s))
    refine Int.eq_of_mul_eq_mul_left (show (2 : Int) ≠ 0 by decide) ?_
    have u1 : X1 * Y1 - d * (X2 * Y2) = 2 * ((k1 * k1 - d * (k2 * k2)) * a * b) := by rw [hX1, hX2, hY1, hY2]; grind
    have u2 : X1 * Y1 - d * (X2 * Y2) = (l1 * l1 - d * (l2 * l2)) * ((2 * a2 * p + b2 * r) * (2 * a2 * q + b2 * s) - d * (r * s)) := by rw [z1, z2, z3, z4]; grind
    have u3 : (2 * a2 * p + b2 * r) * (2 * a2 * q + b2 * s) - d * (r * s) = 2 * (a2 * (2 * a2 * (p * q) + b2 * (p * s + q * r) + 2 * c2 * (r * s))) := by rw [← hg]; grind
    rw [← u1, u2, u3]
    generalize 2 * a2 * (p * q) + b2 * (p * s + q * r) + 2 * c2 * (r * s) = W
    grind
  · show (k1 * k1 - d * (k2 * k2)) * a * c = (l1 * l1 - d * (l2 * l2)) * a2 * (a2 * (q * q) + b2 * (q * s) + c2 * (s * s))
    refine Int.eq_of_mul_eq_mul_left (show (4 : Int) ≠ 0 by decide) ?_
    have u0 : Y1 * Y1 - d * (Y2 * Y2) = (k1 * k1 - d * (k2 * k2)) * (b * b - d) := by rw [hY1, hY2]; grind
    have u1 : (k1 * k1 - d * (k2 * k2)) * (b * b - d) = 4 * ((k1 * k1 - d * (k2 * k2)) * a * c) := by rw [← hf]; grind
    have u2 : Y1 * Y1 - d * (Y2 * Y2) = (l1 * l1 - d * (l2 * l2)) * ((2 * a2 * q + b2 * s) * (2 * a2 * q + b2 * s) - d * (s * s)) := by rw [z3, z4]; grind
    have u3 : (2 * a2 * q + b2 * s) * (2 * a2 * q + b2 * s) - d * (s * s) = 4 * (a2 * (a2 * (q * q) + b2 * (q * s) + c2 * (s * s))) := by rw [← hg]; grind
    rw [← u1, ← u0, u2, u3]
    generalize a2 * (q * q) + b2 * (q * s) + c2 * (s * s) = W
    grind
theorem q_led_eqv {d : Int} {f g : q_f3} (hf : f.2.1 * f.2.1 - 4 * f.1 * f.2.2 = d) (hg : g.2.1 * g.2.1 - 4 * g.1 * g.2.2 = d) (ha : 0 < f.1) (hb : 0 < g.1) (h : q_eqv d (q_La f) (q_La g)) : q_led g f := by
  obtain ⟨k, l, k0, l0, e⟩ := h
  obtain ⟨p, q, r, s, a1, a2, a3, a4⟩ := q_La_in (k := k) (l := l) hf hg (fun z hz => by rw [← e]; exact hz)
  obtain ⟨p2, q2, r2, s2, b1, -, -, -⟩ := q_La_in (k := l) (l := k) hg hf (fun z hz => by rw [e]; exact hz)
  have n1 : 0 < q_zn d k * f.1 := Int.mul_pos k0 ha
  have n2 : 0 < q_zn d l * g.1 := Int.mul_pos l0 hb
  generalize q_zn d k * f.1 = A at *
  generalize q_zn d l * g.1 = B at *
  have pos : ∀ x y w : Int, 0 < x → 0 < y → x = y * w → 1 ≤ w ∧ y ≤ x := by
    intro x y w hx hy hxy
    have w1 : 1 ≤ w := by
      rcases Int.lt_or_le w 1 with q | q
      · have := Int.mul_nonpos_of_nonneg_of_nonpos (show 0 ≤ y by omega) (show w ≤ 0 by omega)
        omega
      · exact q
    have := Int.mul_le_mul_of_nonneg_left w1 (show 0 ≤ y by omega)
    omega
  have c1 := pos A B _ n1 n2 a1
  have c2 := pos B A _ n2 n1 b1
  have hAB : A = B := by omega
  subst hAB
  have can : ∀ x y : Int, A * x = A * y → x = y := fun x y h => Int.eq_of_mul_eq_mul_left (by omega) h
  refine ⟨p, q, r, s, (can 1 _ (by rw [Int.mul_one]; exact a1)).symm, can _ _ a2, can _ _ a3, can _ _ a4⟩
