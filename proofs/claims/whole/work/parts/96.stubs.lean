/-! what is left to be shown -/
theorem k_one {s : q_SS} (hv : q_V s) : q_cok F_X9_one F_X10_one s := by
  sorry
theorem k_join {s : q_SS} (hv : q_V s) (l1 l2 : Int32) : q_cok (fun z => F_X9_join z l1 l2) (fun z => F_X10_join z l1 l2) s := by
  sorry
theorem k_order {s : q_SS} (hv : q_V s) (l1 : Int32) : q_cok (fun z => F_X9_order z l1) (fun z => F_X10_order z l1) s := by
  sorry
theorem k_group {s : q_SS} (hv : q_V s) (l1 : Int32) : q_cok (fun z => F_X9_group z l1) (fun z => F_X10_group z l1) s := by
  sorry
theorem k_genus {s : q_SS} (hv : q_V s) (l1 : Int32) : q_cok (fun z => F_X9_genus z l1) (fun z => F_X10_genus z l1) s := by
  sorry
theorem k_genera {s : q_SS} (hv : q_V s) : q_cok F_X9_genera F_X10_genera s := by
  sorry
