/-! the tables of both: what they hold -/
def q_d4 (d : Int) : Prop := d % 4 ≤ 1
def q_Ctab (_ : q_Z) : Prop := True
def q_Mtab (_ _ : Int) (_ : q_Z) : Prop := True
theorem q_Ctab_fr {z z2 : q_Z} (_ : q_Ctab z) (_ : ∀ n, n < 17 → n ≠ 1 → n ≠ 4 → z2.1 n = z.1 n) : q_Ctab z2 := trivial
theorem q_Mtab_fr {d R : Int} {z z2 : q_Z} (_ : q_Mtab d R z) (_ : z2.1 128 22 = z.1 128 22) (_ : z2.1 128 23 = z.1 128 23) (_ : ∀ n, 134 ≤ n → n ≤ 138 → z2.1 n = z.1 n) : q_Mtab d R z2 := trivial
theorem q_Ctab_0 {z : q_Z} (_ : z.1 3 11 = 0) (_ : z.1 2 7 = 0) : q_Ctab z := trivial
