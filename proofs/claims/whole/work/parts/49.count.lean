/-! no discriminant has more than 128 of them -/
theorem q_kR1 : q_c3 1 2 2 = true := by decide +kernel
theorem q_kR2 : q_c3 2 5 4 = true := by decide +kernel
theorem q_kR3 : q_c3 3 10 6 = true := by decide +kernel
theorem q_kR4 : q_c3 4 17 8 = true := by decide +kernel
theorem q_kR5 : q_c3 5 26 10 = true := by decide +kernel
theorem q_kR6 : q_c3 6 37 12 = true := by decide +kernel
theorem q_kR7 : q_c3 7 50 14 = true := by decide +kernel
theorem q_kR8 : q_c3 8 65 16 = true := by decide +kernel
theorem q_kR9 : q_c3 9 82 18 = true := by decide +kernel
theorem q_kR10 : q_c3 10 101 20 = true := by decide +kernel
theorem q_kR11 : q_c3 11 122 22 = true := by decide +kernel
theorem q_kR12 : q_c3 12 145 24 = true := by decide +kernel
theorem q_kR13 : q_c3 13 170 26 = true := by decide +kernel
theorem q_kR14 : q_c3 14 197 28 = true := by decide +kernel
theorem q_kR15 : q_c3 15 226 30 = true := by decide +kernel
theorem q_kR16 : q_c3 16 257 32 = true := by decide +kernel
theorem q_kR17 : q_c3 17 290 34 = true := by decide +kernel
theorem q_kR18 : q_c3 18 325 36 = true := by decide +kernel
theorem q_kR19 : q_c3 19 362 38 = true := by decide +kernel
theorem q_kR20 : q_c3 20 401 40 = true := by decide +kernel
theorem q_kR21 : q_c3 21 442 42 = true := by decide +kernel
theorem q_kR22 : q_c3 22 485 44 = true := by decide +kernel
theorem q_kR23 : q_c3 23 530 46 = true := by decide +kernel
theorem q_kR24 : q_c3 24 577 48 = true := by decide +kernel
theorem q_kR25 : q_c3 25 626 50 = true := by decide +kernel
theorem q_kR26 : q_c3 26 677 52 = true := by decide +kernel
theorem q_kR27 : q_c3 27 730 54 = true := by decide +kernel
theorem q_kR28 : q_c3 28 785 56 = true := by decide +kernel
theorem q_kR29 : q_c3 29 842 58 = true := by decide +kernel
theorem q_kR30 : q_c3 30 901 60 = true := by decide +kernel
theorem q_kR31 : q_c3 31 962 62 = true := by decide +kernel
theorem q_kR32 : q_c3 32 1025 64 = true := by decide +kernel
theorem q_kR33 : q_c3 33 1090 66 = true := by decide +kernel
theorem q_kR34 : q_c3 34 1157 68 = true := by decide +kernel
theorem q_kR35 : q_c3 35 1226 70 = true := by decide +kernel
theorem q_kR36 : q_c3 36 1297 72 = true := by decide +kernel
theorem q_kR37 : q_c3 37 1370 74 = true := by decide +kernel
theorem q_kR38 : q_c3 38 1445 76 = true := by decide +kernel
theorem q_kR39 : q_c3 39 1522 78 = true := by decide +kernel
theorem q_kR40 : q_c3 40 1601 80 = true := by decide +kernel
theorem q_kR41 : q_c3 41 1682 82 = true := by decide +kernel
theorem q_kR42 : q_c3 42 1765 84 = true := by decide +kernel
theorem q_kR43 : q_c3 43 1850 86 = true := by decide +kernel
theorem q_kR44 : q_c3 44 1937 88 = true := by decide +kernel
theorem q_kR45 : q_c3 45 2026 90 = true := by decide +kernel
theorem q_kR46 : q_c3 46 2117 92 = true := by decide +kernel
theorem q_kR47 : q_c3 47 2210 94 = true := by decide +kernel
theorem q_kR48 : q_c3 48 2305 96 = true := by decide +kernel
theorem q_kR49 : q_c3 49 2402 98 = true := by decide +kernel
theorem q_kR50 : q_c3 50 2501 100 = true := by decide +kernel
theorem q_kR51 : q_c3 51 2602 102 = true := by decide +kernel
theorem q_kR52 : q_c3 52 2705 104 = true := by decide +kernel
theorem q_kR53 : q_c3 53 2810 106 = true := by decide +kernel
theorem q_kR54 : q_c3 54 2917 108 = true := by decide +kernel
theorem q_kR55 : q_c3 55 3026 110 = true := by decide +kernel
theorem q_kR56 : q_c3 56 3137 112 = true := by decide +kernel
theorem q_kR57 : q_c3 57 3250 114 = true := by decide +kernel
theorem q_kR58 : q_c3 58 3365 116 = true := by decide +kernel
theorem q_kR59 : q_c3 59 3482 118 = true := by decide +kernel
theorem q_kR60 : q_c3 60 3601 120 = true := by decide +kernel
theorem q_kR61 : q_c3 61 3722 122 = true := by decide +kernel
theorem q_kR62 : q_c3 62 3845 124 = true := by decide +kernel
theorem q_kR63 : q_c3 63 3970 31 = true := by decide +kernel
theorem q_kR : ∀ R, 0 < R → R < 64 → ∀ d, R * R < d → d < (R + 1) * (R + 1) → d ≤ 4000 → d % 4 ≤ 1 → q_c2 d R ((R + d % 2) / 2) ≤ 128 := by
  intro R h0 h1 d h2 h3 h4 h5
  have key : ∀ k, q_c3 R (R * R + 1) k = true → d < R * R + 1 + k → q_c2 d R ((R + d % 2) / 2) ≤ 128 := by
    intro k hk hd
    have := q_c3_spec k hk (d - (R * R + 1)) (by omega) (by rw [show R * R + 1 + (d - (R * R + 1)) = d by omega]; exact h5)
    rw [show R * R + 1 + (d - (R * R + 1)) = d by omega] at this
    exact this
  match R, h0, h1, h2, h3, key with
  | 1, _, _, h2, h3, key => exact key _ q_kR1 (by omega)
  | 2, _, _, h2, h3, key => exact key _ q_kR2 (by omega)
  | 3, _, _, h2, h3, key => exact key _ q_kR3 (by omega)
  | 4, _, _, h2, h3, key => exact key _ q_kR4 (by omega)
  | 5, _, _, h2, h3, key => exact key _ q_kR5 (by omega)
  | 6, _, _, h2, h3, key => exact key _ q_kR6 (by omega)
  | 7, _, _, h2, h3, key => exact key _ q_kR7 (by omega)
  | 8, _, _, h2, h3, key => exact key _ q_kR8 (by omega)
  | 9, _, _, h2, h3, key => exact key _ q_kR9 (by omega)
  | 10, _, _, h2, h3, key => exact key _ q_kR10 (by omega)
  | 11, _, _, h2, h3, key => exact key _ q_kR11 (by omega)
  | 12, _, _, h2, h3, key => exact key _ q_kR12 (by omega)
  | 13, _, _, h2, h3, key => exact key _ q_kR13 (by omega)
  | 14, _, _, h2, h3, key => exact key _ q_kR14 (by omega)
  | 15, _, _, h2, h3, key => exact key _ q_kR15 (by omega)
  | 16, _, _, h2, h3, key => exact key _ q_kR16 (by omega)
  | 17, _, _, h2, h3, key => exact key _ q_kR17 (by omega)
  | 18, _, _, h2, h3, key => exact key _ q_kR18 (by omega)
  | 19, _, _, h2, h3, key => exact key _ q_kR19 (by omega)
  | 20, _, _, h2, h3, key => exact key _ q_kR20 (by omega)
  | 21, _, _, h2, h3, key => exact key _ q_kR21 (by omega)
  | 22, _, _, h2, h3, key => exact key _ q_kR22 (by omega)
  | 23, _, _, h2, h3, key => exact key _ q_kR23 (by omega)
  | 24, _, _, h2, h3, key => exact key _ q_kR24 (by omega)
  | 25, _, _, h2, h3, key => exact key _ q_kR25 (by omega)
  | 26, _, _, h2, h3, key => exact key _ q_kR26 (by omega)
  | 27, _, _, h2, h3, key => exact key _ q_kR27 (by omega)
  | 28, _, _, h2, h3, key => exact key _ q_kR28 (by omega)
  | 29, _, _, h2, h3, key => exact key _ q_kR29 (by omega)
  | 30, _, _, h2, h3, key => exact key _ q_kR30 (by omega)
  | 31, _, _, h2, h3, key => exact key _ q_kR31 (by omega)
  | 32, _, _, h2, h3, key => exact key _ q_kR32 (by omega)
  | 33, _, _, h2, h3, key => exact key _ q_kR33 (by omega)
  | 34, _, _, h2, h3, key => exact key _ q_kR34 (by omega)
  | 35, _, _, h2, h3, key => exact key _ q_kR35 (by omega)
  | 36, _, _, h2, h3, key => exact key _ q_kR36 (by omega)
  | 37, _, _, h2, h3, key => exact key _ q_kR37 (by omega)
  | 38, _, _, h2, h3, key => exact key _ q_kR38 (by omega)
  | 39, _, _, h2, h3, key => exact key _ q_kR39 (by omega)
  | 40, _, _, h2, h3, key => exact key _ q_kR40 (by omega)
  | 41, _, _, h2, h3, key => exact key _ q_kR41 (by omega)
  | 42, _, _, h2, h3, key => exact key _ q_kR42 (by omega)
  | 43, _, _, h2, h3, key => exact key _ q_kR43 (by omega)
  | 44, _, _, h2, h3, key => exact key _ q_kR44 (by omega)
  | 45, _, _, h2, h3, key => exact key _ q_kR45 (by omega)
  | 46, _, _, h2, h3, key => exact key _ q_kR46 (by omega)
  | 47, _, _, h2, h3, key => exact key _ q_kR47 (by omega)
  | 48, _, _, h2, h3, key => exact key _ q_kR48 (by omega)
  | 49, _, _, h2, h3, key => exact key _ q_kR49 (by omega)
  | 50, _, _, h2, h3, key => exact key _ q_kR50 (by omega)
  | 51, _, _, h2, h3, key => exact key _ q_kR51 (by omega)
  | 52, _, _, h2, h3, key => exact key _ q_kR52 (by omega)
  | 53, _, _, h2, h3, key => exact key _ q_kR53 (by omega)
  | 54, _, _, h2, h3, key => exact key _ q_kR54 (by omega)
  | 55, _, _, h2, h3, key => exact key _ q_kR55 (by omega)
  | 56, _, _, h2, h3, key => exact key _ q_kR56 (by omega)
  | 57, _, _, h2, h3, key => exact key _ q_kR57 (by omega)
  | 58, _, _, h2, h3, key => exact key _ q_kR58 (by omega)
  | 59, _, _, h2, h3, key => exact key _ q_kR59 (by omega)
  | 60, _, _, h2, h3, key => exact key _ q_kR60 (by omega)
  | 61, _, _, h2, h3, key => exact key _ q_kR61 (by omega)
  | 62, _, _, h2, h3, key => exact key _ q_kR62 (by omega)
  | 63, _, _, h2, h3, key => exact key _ q_kR63 (by omega)
  | R + 64, _, h1, _, _, _ => exact absurd h1 (by omega)
theorem q_km0 : q_e3 0 200 = true := by decide +kernel
theorem q_km1 : q_e3 200 200 = true := by decide +kernel
theorem q_km2 : q_e3 400 200 = true := by decide +kernel
theorem q_km3 : q_e3 600 200 = true := by decide +kernel
theorem q_km4 : q_e3 800 200 = true := by decide +kernel
theorem q_km5 : q_e3 1000 200 = true := by decide +kernel
theorem q_km6 : q_e3 1200 200 = true := by decide +kernel
theorem q_km7 : q_e3 1400 200 = true := by decide +kernel
theorem q_km8 : q_e3 1600 200 = true := by decide +kernel
theorem q_km9 : q_e3 1800 200 = true := by decide +kernel
theorem q_km10 : q_e3 2000 200 = true := by decide +kernel
theorem q_km11 : q_e3 2200 200 = true := by decide +kernel
theorem q_km12 : q_e3 2400 200 = true := by decide +kernel
theorem q_km13 : q_e3 2600 200 = true := by decide +kernel
theorem q_km14 : q_e3 2800 200 = true := by decide +kernel
theorem q_km15 : q_e3 3000 200 = true := by decide +kernel
theorem q_km16 : q_e3 3200 200 = true := by decide +kernel
theorem q_km17 : q_e3 3400 200 = true := by decide +kernel
theorem q_km18 : q_e3 3600 200 = true := by decide +kernel
theorem q_km19 : q_e3 3800 200 = true := by decide +kernel
theorem q_km20 : q_e3 4000 1 = true := by decide +kernel
theorem q_km : ∀ m, m < 4001 → q_e2 m 36 ≤ 128 := by
  intro m hm
  have key : ∀ i k, q_e3 i k = true → i ≤ m → m < i + k → q_e2 m 36 ≤ 128 := by
    intro i k h a1 a2
    have := q_e3_spec k h (m - i) (by omega)
    rw [show i + (m - i) = m by omega] at this
    exact this
  by_cases c0 : m < 200
  · exact key 0 200 q_km0 (by omega) c0
  by_cases c1 : m < 400
  · exact key 200 200 q_km1 (by omega) c1
  by_cases c2 : m < 600
  · exact key 400 200 q_km2 (by omega) c2
  by_cases c3 : m < 800
  · exact key 600 200 q_km3 (by omega) c3
  by_cases c4 : m < 1000
  · exact key 800 200 q_km4 (by omega) c4
  by_cases c5 : m < 1200
  · exact key 1000 200 q_km5 (by omega) c5
  by_cases c6 : m < 1400
  · exact key 1200 200 q_km6 (by omega) c6
  by_cases c7 : m < 1600
  · exact key 1400 200 q_km7 (by omega) c7
  by_cases c8 : m < 1800
  · exact key 1600 200 q_km8 (by omega) c8
  by_cases c9 : m < 2000
  · exact key 1800 200 q_km9 (by omega) c9
  by_cases c10 : m < 2200
  · exact key 2000 200 q_km10 (by omega) c10
  by_cases c11 : m < 2400
  · exact key 2200 200 q_km11 (by omega) c11
  by_cases c12 : m < 2600
  · exact key 2400 200 q_km12 (by omega) c12
  by_cases c13 : m < 2800
  · exact key 2600 200 q_km13 (by omega) c13
  by_cases c14 : m < 3000
  · exact key 2800 200 q_km14 (by omega) c14
  by_cases c15 : m < 3200
  · exact key 3000 200 q_km15 (by omega) c15
  by_cases c16 : m < 3400
  · exact key 3200 200 q_km16 (by omega) c16
  by_cases c17 : m < 3600
  · exact key 3400 200 q_km17 (by omega) c17
  by_cases c18 : m < 3800
  · exact key 3600 200 q_km18 (by omega) c18
  by_cases c19 : m < 4000
  · exact key 3800 200 q_km19 (by omega) c19
  by_cases c20 : m < 4001
  · exact key 4000 1 q_km20 (by omega) c20
  omega
