/-! JOIN: what is composed -/
/-- two forms with a above 0, by what they have in common: a1 = e α, a2 = e β, (b1 + b2) / 2 = e σ, and k fits -/
def q_cf1 (e α β σ k r t : Int) : q_f3 := (e * α, e * σ + (β * k + α * r), σ * r + β * t)
def q_cf2 (e α β σ k r t : Int) : q_f3 := (e * β, e * σ - (β * k + α * r), α * t - σ * k)
def q_cf3 (e α β σ k r t : Int) : q_f3 := (α * β, e * σ + β * k - α * r, e * t - k * r)
theorem q_cf_disc (e α β σ k r t : Int) : (q_cf3 e α β σ k r t).2.1 * (q_cf3 e α β σ k r t).2.1 - 4 * (q_cf3 e α β σ k r t).1 * (q_cf3 e α β σ k r t).2.2 = (q_cf2 e α β σ k r t).2.1 * (q_cf2 e α β σ k r t).2.1 - 4 * (q_cf2 e α β σ k r t).1 * (q_cf2 e α β σ k r t).2.2 := by
  show (e * σ + β * k - α * r) * (e * σ + β * k - α * r) - 4 * (α * β) * (e * t - k * r) = (e * σ - (β * k + α * r)) * (e * σ - (β * k + α * r)) - 4 * (e * β) * (α * t - σ * k)
  grind
theorem q_cf_mul (e α β σ k r t x y u v : Int) : q_ev (q_cf1 e α β σ k r t) (x, y) * q_ev (q_cf2 e α β σ k r t) (u, v) = q_ev (q_cf3 e α β σ k r t) (e * (x * u) - k * (x * v) + r * (u * y) - t * (y * v), α * (x * v) + β * (u * y) + σ * (y * v)) := by
  unfold q_ev q_cf1 q_cf2 q_cf3
  simp only
  grind
theorem q_dvd_ev {g : Int} {f : q_f3} (h1 : g ∣ f.1) (h2 : g ∣ f.2.1) (h3 : g ∣ f.2.2) (p : Int × Int) : g ∣ q_ev f p := by
  unfold q_ev
  exact Int.dvd_add (Int.dvd_add (Int.dvd_mul_of_dvd_left h1) (Int.dvd_mul_of_dvd_left h2)) (Int.dvd_mul_of_dvd_left h3)
/-- what divides all values of a primitive form times m divides m -/
theorem q_prim1 {g m : Int} {f : q_f3} (hf : Int.gcd (Int.gcd f.1 f.2.1) f.2.2 = 1) (h : ∀ p, g ∣ q_ev f p * m) : g ∣ m := by
  have e1 : g ∣ f.1 * m := by
    have := h (1, 0)
    unfold q_ev at this
    simpa using this
  have e3 : g ∣ f.2.2 * m := by
    have := h (0, 1)
    unfold q_ev at this
    simpa using this
  have e2 : g ∣ f.2.1 * m := by
    have h4 := h (1, 1)
    have e : f.2.1 * m = q_ev f (1, 1) * m - (f.1 * m + f.2.2 * m) := by
      unfold q_ev
      simp only
      grind
    rw [e]
    exact Int.dvd_sub h4 (Int.dvd_add e1 e3)
  have n1 : g.natAbs ∣ f.1.natAbs * m.natAbs := by rw [← Int.natAbs_mul]; exact Int.natAbs_dvd_natAbs.mpr e1
  have n2 : g.natAbs ∣ f.2.1.natAbs * m.natAbs := by rw [← Int.natAbs_mul]; exact Int.natAbs_dvd_natAbs.mpr e2
  have n3 : g.natAbs ∣ f.2.2.natAbs * m.natAbs := by rw [← Int.natAbs_mul]; exact Int.natAbs_dvd_natAbs.mpr e3
  have hg : Nat.gcd (Nat.gcd f.1.natAbs f.2.1.natAbs) f.2.2.natAbs = 1 := hf
  have n4 := Nat.dvd_gcd (Nat.dvd_gcd n1 n2) n3
  rw [Nat.gcd_mul_right, Nat.gcd_mul_right, hg, Nat.one_mul] at n4
  exact Int.natAbs_dvd_natAbs.mp n4
theorem q_cf_prim {e α β σ k r t : Int} (h1 : Int.gcd (Int.gcd (q_cf1 e α β σ k r t).1 (q_cf1 e α β σ k r t).2.1) (q_cf1 e α β σ k r t).2.2 = 1) (h2 : Int.gcd (Int.gcd (q_cf2 e α β σ k r t).1 (q_cf2 e α β σ k r t).2.1) (q_cf2 e α β σ k r t).2.2 = 1) : Int.gcd (Int.gcd (q_cf3 e α β σ k r t).1 (q_cf3 e α β σ k r t).2.1) (q_cf3 e α β σ k r t).2.2 = 1 := by
  generalize hg : Int.gcd (Int.gcd (q_cf3 e α β σ k r t).1 (q_cf3 e α β σ k r t).2.1) (q_cf3 e α β σ k r t).2.2 = g
  have d3 : (g : Int) ∣ (q_cf3 e α β σ k r t).2.2 := by rw [← hg]; exact Int.gcd_dvd_right ..
  have d0 : (g : Int) ∣ (Int.gcd (q_cf3 e α β σ k r t).1 (q_cf3 e α β σ k r t).2.1 : Int) := by rw [← hg]; exact Int.gcd_dvd_left ..
  have d1 : (g : Int) ∣ (q_cf3 e α β σ k r t).1 := Int.dvd_trans d0 (Int.gcd_dvd_left ..)
  have d2 : (g : Int) ∣ (q_cf3 e α β σ k r t).2.1 := Int.dvd_trans d0 (Int.gcd_dvd_right ..)
  have all : ∀ q, (g : Int) ∣ q_ev (q_cf2 e α β σ k r t) q := by
    intro q
    refine q_prim1 h1 (fun p => ?_)
    have := q_cf_mul e α β σ k r t p.1 p.2 q.1 q.2
    rw [show q_ev (q_cf1 e α β σ k r t) p * q_ev (q_cf2 e α β σ k r t) q = _ from this]
    exact q_dvd_ev d1 d2 d3 _
  have one : (g : Int) ∣ 1 := q_prim1 h2 (fun p => by rw [Int.mul_one]; exact all p)
  have : g ∣ 1 := Int.natCast_dvd_natCast.mp (by exact one)
  exact Nat.dvd_one.mp this
/-- k that fits -/
def q_fits (α β σ n c2 k : Int) : Prop := α ∣ n - β * k ∧ α ∣ c2 + σ * k
theorem q_fits_vw {α β σ n c1 c2 k v w : Int} (hs : σ * n = α * c1 - β * c2) (hv : α ∣ v * β + w * σ - 1) (hk : α ∣ k - (v * n - w * c2)) : q_fits α β σ n c2 k := by
  obtain ⟨x, hx⟩ := hv
  obtain ⟨y, hy⟩ := hk
  have ek : k = v * n - w * c2 + α * y := by omega
  refine ⟨⟨-(x * n) + w * c1 - β * y, ?_⟩, ⟨-(x * c2) + v * c1 + σ * y, ?_⟩⟩
  · rw [ek]
    have e1 : w * (σ * n) = w * (α * c1 - β * c2) := by rw [hs]
    have e2 : (v * β + w * σ - 1) * n = α * x * n := by rw [hx]
    grind
  · rw [ek]
    have e1 : v * (σ * n) = v * (α * c1 - β * c2) := by rw [hs]
    have e2 : (v * β + w * σ - 1) * c2 = α * x * c2 := by rw [hx]
    grind
theorem q_fits_uni {α β σ n c2 k l v w : Int} (hv : α ∣ v * β + w * σ - 1) (h1 : q_fits α β σ n c2 k) (h2 : q_fits α β σ n c2 l) : α ∣ k - l := by
  obtain ⟨x, hx⟩ := hv
  obtain ⟨⟨a, ha⟩, ⟨b, hb⟩⟩ := h1
  obtain ⟨⟨c, hc⟩, ⟨d, hd⟩⟩ := h2
  refine ⟨v * (c - a) + w * (b - d) - x * (k - l), ?_⟩
  have e1 : v * (n - β * l - (n - β * k)) = v * (α * c - α * a) := by rw [ha, hc]
  have e2 : w * (c2 + σ * k - (c2 + σ * l)) = w * (α * b - α * d) := by rw [hb, hd]
  have e3 : (v * β + w * σ - 1) * (k - l) = α * x * (k - l) := by rw [hx]
  grind
