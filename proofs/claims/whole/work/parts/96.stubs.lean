/-! what is left to be shown -/
theorem p_becomes {d R : Int} (hdc : q_dc d R) (h4 : q_d4 d) (z : q_Z) : ∃ z2, F_X10_becomes z (q_i d) = some ((), z2) ∧ z2.1 128 0 = q_i d ∧ z2.1 128 1 = q_i R ∧ q_Mtab d R z2 ∧ (∀ n, n ≠ 128 → (n < 134 ∨ 138 < n) → z2.1 n = z.1 n ∧ z2.2 n = z.2 n) ∧ ∀ k, k ≠ 0 → k ≠ 1 → k ≠ 22 → k ≠ 23 → z2.1 128 k = z.1 128 k := by
  sorry
theorem k_root {s : q_SS} (hv : q_V s) (l1 : Int32) : q_cok (fun z => F_X9_root z l1) (fun z => F_X10_root z l1) s := by
  sorry
theorem k_classOf {s : q_SS} (hv : q_V s) (l1 : Int32) : q_cok (fun z => F_X9_classOf z l1) (fun z => F_X10_classOf z l1) s := by
  sorry
theorem k_classes {s : q_SS} (hv : q_V s) : q_cok F_X9_classes F_X10_classes s := by
  sorry
theorem k_head {s : q_SS} (hv : q_V s) (l1 l2 : Int32) : q_cok (fun z => F_X9_head z l1 l2) (fun z => F_X10_head z l1 l2) s := by
  sorry
theorem k_one {s : q_SS} (hv : q_V s) : q_cok F_X9_one F_X10_one s := by
  sorry
theorem k_join {s : q_SS} (hv : q_V s) (l1 l2 : Int32) : q_cok (fun z => F_X9_join z l1 l2) (fun z => F_X10_join z l1 l2) s := by
  sorry
theorem k_back {s : q_SS} (hv : q_V s) (l1 : Int32) : q_cok (fun z => F_X9_back z l1) (fun z => F_X10_back z l1) s := by
  sorry
theorem k_order {s : q_SS} (hv : q_V s) (l1 : Int32) : q_cok (fun z => F_X9_order z l1) (fun z => F_X10_order z l1) s := by
  sorry
theorem k_group {s : q_SS} (hv : q_V s) (l1 : Int32) : q_cok (fun z => F_X9_group z l1) (fun z => F_X10_group z l1) s := by
  sorry
theorem k_genus {s : q_SS} (hv : q_V s) (l1 : Int32) : q_cok (fun z => F_X9_genus z l1) (fun z => F_X10_genus z l1) s := by
  sorry
theorem k_genera {s : q_SS} (hv : q_V s) : q_cok F_X9_genera F_X10_genera s := by
  sorry
theorem k_takes {s : q_SS} (hv : q_V s) (l1 l2 : Int32) : q_cok (fun z => F_X9_takes z l1 l2) (fun z => F_X10_takes z l1 l2) s := by
  sorry
theorem k_proper {s : q_SS} (hv : q_V s) (l1 l2 : Int32) : q_cok (fun z => F_X9_proper z l1 l2) (fun z => F_X10_proper z l1 l2) s := by
  sorry
theorem k_squares {s : q_SS} (hv : q_V s) (l1 : Int32) : q_cok (fun z => F_X9_squares z l1) (fun z => F_X10_squares z l1) s := by
  sorry
