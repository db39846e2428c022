/-! the making of the reference; the law (written by wip/whole/gen19.py) -/
def q_Rh : Nat → Nat → Option Nat := q_u2 (q_u2 (q_u2 (q_u2 (q_u2 (q_u2 (q_u2 (q_u2 (q_u2 (q_fl (q_u2 (q_fl (q_u2 (q_u2 (q_u2 (q_u2 (q_u2 (q_u2 (q_u2 (q_u2 (q_u2 (q_u2 (q_u2 (q_u2 (q_u2 (q_u2 (q_u2 (q_u2 (q_u2 (q_u2 (fun _ _ => none) 3 0 (some 4)) 3 1 (some 5)) 3 2 (some 6)) 3 3 (some 7)) 3 4 (some 8)) 3 5 (some 9)) 3 6 (some 10)) 3 7 (some 11)) 3 8 (some 12)) 2 0 (some 3)) 2 1 (some 13)) 2 2 (some 14)) 2 3 (some 15)) 2 4 (some 16)) 1 0 (some 2)) 1 1 (some 3)) 1 2 (some 4)) 17 0 (some 18)) 18 19 40) 17 1 (some 59)) 59 60 60) 17 2 (some 120)) 1 3 (some 17)) 1 4 (some 121)) 122 0 (some 123)) 122 1 (some 124)) 1 5 (some 122)) 1 6 (some 125)) 1 7 (some 126)) 1 8 (some 127)
def q_Ih : Nat → Nat → Int32 := q_u2 (q_u2 (fun _ _ => 0) 4 0 (-4)) 1 9 0
def q_Lh : Nat → Nat → Int64 := q_u2 (q_u2 (q_u2 (q_u2 (fun _ _ => 0) 121 0 1) 121 3 1) 127 0 1) 127 3 1
set_option maxRecDepth 100000 in
set_option maxHeartbeats 4000000 in
theorem q_Rfin : (q_u2 (q_u2 (q_u2 (q_u2 (q_u2 (q_u2 (q_u2 (q_u2 (q_u2 (q_u2 (q_u2 (q_u2 (q_u2 (q_u2 q_Rh 128 4 (some 129)) 128 5 (some 130)) 128 8 (some 131)) 128 9 (some 132)) 128 10 (some 133)) 128 19 (some 134)) 128 20 (some 135)) 128 21 (some 136)) 128 24 (some 137)) 128 25 (some 138)) 128 29 (some 139)) 128 30 (some 140)) 128 32 (some 141)) 128 33 (some 142) : Nat → Nat → Option Nat) = q_R0 := by
  funext n k
  unfold q_R0 q_Rh
  split
  all_goals first
    | (split <;> first | rfl | (simp_all [q_u2, q_fl]; done))
    | (by_cases c : k < 40 <;> by_cases d : k < 60 <;> simp_all [q_u2, q_fl] <;> omega)
    | (simp_all [q_u2, q_fl]; done)
theorem q_Kfin : q_K0.take 142 = q_K0 := List.take_of_length_le (by decide +kernel)
def q_Lm : Nat → Nat → Int64 := q_u2 (q_u2 q_Lh 131 (Int32.toNatClampNeg 0) 1) 131 (Int32.toNatClampNeg 3) 1
theorem q_Rhc : ∀ n, 128 < n → ∀ k, q_Rh n k = none := by
  unfold q_Rh
  exact (q_clu (by decide) (q_clu (by decide) (q_clu (by decide) (q_clu (by decide) (q_clu (by decide) (q_clu (by decide) (q_clu (by decide) (q_clu (by decide) (q_clu (by decide) (q_clf (by decide) (q_clu (by decide) (q_clf (by decide) (q_clu (by decide) (q_clu (by decide) (q_clu (by decide) (q_clu (by decide) (q_clu (by decide) (q_clu (by decide) (q_clu (by decide) (q_clu (by decide) (q_clu (by decide) (q_clu (by decide) (q_clu (by decide) (q_clu (by decide) (q_clu (by decide) (q_clu (by decide) (q_clu (by decide) (q_clu (by decide) (q_clu (by decide) (q_clu (by decide) (fun n h k => rfl)))))))))))))))))))))))))))))))
theorem q_Ihc : ∀ n, 128 < n → ∀ k, q_Ih n k = 0 := by
  unfold q_Ih
  exact (q_clu (by decide) (q_clu (by decide) (fun n h k => rfl)))
theorem q_Lhc : ∀ n, 128 < n → ∀ k, q_Lh n k = 0 := by
  unfold q_Lh
  exact (q_clu (by decide) (q_clu (by decide) (q_clu (by decide) (q_clu (by decide) (fun n h k => rfl)))))
set_option maxRecDepth 100000 in
set_option maxHeartbeats 4000000 in
theorem n_X10_init {zR : q_Z} (hB : F_X10_becomes (q_Ih, q_Lm) (-4) = some ((), zR)) : q_Ca 97 [.ref 128] (q_K0.take 128, q_Ih, q_Lh, q_Rh) none (q_K0, zR.1, zR.2, q_R0) := by
  refine q_Ca_of (by decide) (Nat.le_of_ble_eq_true rfl) ?_
  show q_Ex none 97 0 [(0, .ref 128)] [] (q_K0.take 128, q_Ih, q_Lh, q_Rh) _ _
  refine q_blk2 (pc2 := 1) (ls2 := [(0, .ref 128)]) (st2 := [.ref 128]) (h2 := (q_K0.take 128, q_Ih, q_Lh, q_Rh)) [(.aload_n 0, 0, 0, 0, 0, 0)] (by decide +kernel) rfl rfl ⟨trivial, trivial⟩ ?_
  refine q_objI (idx := 1) (by decide +kernel) (by decide +kernel) (by decide +kernel) ?_
  refine q_blk2 (pc2 := 7) (ls2 := [(0, .ref 128)]) (st2 := [.int 120, .ref 128]) (h2 := (q_K0.take 128, q_Ih, q_Lh, q_Rh)) [(.aload_n 0, 0, 0, 0, 0, 0), (.bipush 120, 0, 0, 0, 120, 0)] (by decide +kernel) rfl rfl ⟨trivial, trivial, trivial⟩ ?_
  refine q_newl2 128 120 rfl (by decide) (by decide) rfl (by decide) (q_clx 129 (N := 128) (fun n h k => q_Ihc n (by omega) k)) (q_clx 129 (N := 128) (fun n h k => q_Lhc n (by omega) k)) (q_clx 129 (N := 128) (fun n h k => q_Rhc n (by omega) k)) (by decide +kernel) ?_
  refine q_blk2 (pc2 := 16) (ls2 := [(0, .ref 128)]) (st2 := [.int 240, .ref 128]) (h2 := (q_K0.take 129, q_Ih, q_Lh, q_u2 q_Rh 128 4 (some 129))) [(.putfield 7, 0, 9, 4, 0, 0), (.aload_n 0, 0, 0, 0, 0, 0), (.sipush 240, 0, 0, 0, 240, 0)] (by decide +kernel) rfl rfl ⟨rfl, trivial, trivial, trivial⟩ ?_
  refine q_newl2 129 240 rfl (by decide) (by decide) rfl (by decide) (q_clx 130 (N := 129) (fun n h k => q_Ihc n (by omega) k)) (q_clx 130 (N := 129) (fun n h k => q_Lhc n (by omega) k)) (q_clx 130 (N := 129) (q_clu (by decide) (fun n h k => q_Rhc n (by omega) k))) (by decide +kernel) ?_
  refine q_blk2 (pc2 := 23) (ls2 := [(0, .ref 128)]) (st2 := [.int 4, .ref 128]) (h2 := (q_K0.take 130, q_Ih, q_Lh, q_u2 (q_u2 q_Rh 128 4 (some 129)) 128 5 (some 130))) [(.putfield 13, 0, 9, 5, 0, 0), (.aload_n 0, 0, 0, 0, 0, 0), (.iconst 4, 0, 0, 0, 4, 0)] (by decide +kernel) rfl rfl ⟨rfl, trivial, trivial, trivial⟩ ?_
  refine q_newl2 130 4 rfl (by decide) (by decide) rfl (by decide) (q_clx 131 (N := 130) (fun n h k => q_Ihc n (by omega) k)) (q_clx 131 (N := 130) (fun n h k => q_Lhc n (by omega) k)) (q_clx 131 (N := 130) (q_clu (by decide) (q_clu (by decide) (fun n h k => q_Rhc n (by omega) k)))) (by decide +kernel) ?_
  refine q_blk2 (pc2 := 32) (ls2 := [(0, .ref 128)]) (st2 := [.int 200, .ref 128]) (h2 := (q_K0.take 131, q_Ih, q_Lh, q_u2 (q_u2 (q_u2 q_Rh 128 4 (some 129)) 128 5 (some 130)) 128 8 (some 131))) [(.putfield 16, 0, 9, 8, 0, 0), (.aload_n 0, 0, 0, 0, 0, 0), (.sipush 200, 0, 0, 0, 200, 0)] (by decide +kernel) rfl rfl ⟨rfl, trivial, trivial, trivial⟩ ?_
  refine q_newi2 131 200 rfl (by decide) (by decide) rfl (by decide) (q_clx 132 (N := 131) (fun n h k => q_Ihc n (by omega) k)) (q_clx 132 (N := 131) (fun n h k => q_Lhc n (by omega) k)) (q_clx 132 (N := 131) (q_clu (by decide) (q_clu (by decide) (q_clu (by decide) (fun n h k => q_Rhc n (by omega) k))))) (by decide +kernel) ?_
  refine q_blk2 (pc2 := 41) (ls2 := [(0, .ref 128)]) (st2 := [.int 200, .ref 128]) (h2 := (q_K0.take 132, q_Ih, q_Lh, q_u2 (q_u2 (q_u2 (q_u2 q_Rh 128 4 (some 129)) 128 5 (some 130)) 128 8 (some 131)) 128 9 (some 132))) [(.putfield 19, 0, 9, 9, 0, 0), (.aload_n 0, 0, 0, 0, 0, 0), (.sipush 200, 0, 0, 0, 200, 0)] (by decide +kernel) rfl rfl ⟨rfl, trivial, trivial, trivial⟩ ?_
  refine q_newi2 132 200 rfl (by decide) (by decide) rfl (by decide) (q_clx 133 (N := 132) (fun n h k => q_Ihc n (by omega) k)) (q_clx 133 (N := 132) (fun n h k => q_Lhc n (by omega) k)) (q_clx 133 (N := 132) (q_clu (by decide) (q_clu (by decide) (q_clu (by decide) (q_clu (by decide) (fun n h k => q_Rhc n (by omega) k)))))) (by decide +kernel) ?_
  refine q_blk2 (pc2 := 50) (ls2 := [(0, .ref 128)]) (st2 := [.int 4000, .ref 128]) (h2 := (q_K0.take 133, q_Ih, q_Lh, q_u2 (q_u2 (q_u2 (q_u2 (q_u2 q_Rh 128 4 (some 129)) 128 5 (some 130)) 128 8 (some 131)) 128 9 (some 132)) 128 10 (some 133))) [(.putfield 23, 0, 9, 10, 0, 0), (.aload_n 0, 0, 0, 0, 0, 0), (.sipush 4000, 0, 0, 0, 4000, 0)] (by decide +kernel) rfl rfl ⟨rfl, trivial, trivial, trivial⟩ ?_
  refine q_newi2 133 4000 rfl (by decide) (by decide) rfl (by decide) (q_clx 134 (N := 133) (fun n h k => q_Ihc n (by omega) k)) (q_clx 134 (N := 133) (fun n h k => q_Lhc n (by omega) k)) (q_clx 134 (N := 133) (q_clu (by decide) (q_clu (by decide) (q_clu (by decide) (q_clu (by decide) (q_clu (by decide) (fun n h k => q_Rhc n (by omega) k))))))) (by decide +kernel) ?_
  refine q_blk2 (pc2 := 59) (ls2 := [(0, .ref 128)]) (st2 := [.int 4000, .ref 128]) (h2 := (q_K0.take 134, q_Ih, q_Lh, q_u2 (q_u2 (q_u2 (q_u2 (q_u2 (q_u2 q_Rh 128 4 (some 129)) 128 5 (some 130)) 128 8 (some 131)) 128 9 (some 132)) 128 10 (some 133)) 128 19 (some 134))) [(.putfield 26, 0, 9, 19, 0, 0), (.aload_n 0, 0, 0, 0, 0, 0), (.sipush 4000, 0, 0, 0, 4000, 0)] (by decide +kernel) rfl rfl ⟨rfl, trivial, trivial, trivial⟩ ?_
  refine q_newi2 134 4000 rfl (by decide) (by decide) rfl (by decide) (q_clx 135 (N := 134) (fun n h k => q_Ihc n (by omega) k)) (q_clx 135 (N := 134) (fun n h k => q_Lhc n (by omega) k)) (q_clx 135 (N := 134) (q_clu (by decide) (q_clu (by decide) (q_clu (by decide) (q_clu (by decide) (q_clu (by decide) (q_clu (by decide) (fun n h k => q_Rhc n (by omega) k)))))))) (by decide +kernel) ?_
  refine q_blk2 (pc2 := 68) (ls2 := [(0, .ref 128)]) (st2 := [.int 4000, .ref 128]) (h2 := (q_K0.take 135, q_Ih, q_Lh, q_u2 (q_u2 (q_u2 (q_u2 (q_u2 (q_u2 (q_u2 q_Rh 128 4 (some 129)) 128 5 (some 130)) 128 8 (some 131)) 128 9 (some 132)) 128 10 (some 133)) 128 19 (some 134)) 128 20 (some 135))) [(.putfield 29, 0, 9, 20, 0, 0), (.aload_n 0, 0, 0, 0, 0, 0), (.sipush 4000, 0, 0, 0, 4000, 0)] (by decide +kernel) rfl rfl ⟨rfl, trivial, trivial, trivial⟩ ?_
  refine q_newi2 135 4000 rfl (by decide) (by decide) rfl (by decide) (q_clx 136 (N := 135) (fun n h k => q_Ihc n (by omega) k)) (q_clx 136 (N := 135) (fun n h k => q_Lhc n (by omega) k)) (q_clx 136 (N := 135) (q_clu (by decide) (q_clu (by decide) (q_clu (by decide) (q_clu (by decide) (q_clu (by decide) (q_clu (by decide) (q_clu (by decide) (fun n h k => q_Rhc n (by omega) k))))))))) (by decide +kernel) ?_
  refine q_blk2 (pc2 := 77) (ls2 := [(0, .ref 128)]) (st2 := [.int 1000, .ref 128]) (h2 := (q_K0.take 136, q_Ih, q_Lh, q_u2 (q_u2 (q_u2 (q_u2 (q_u2 (q_u2 (q_u2 (q_u2 q_Rh 128 4 (some 129)) 128 5 (some 130)) 128 8 (some 131)) 128 9 (some 132)) 128 10 (some 133)) 128 19 (some 134)) 128 20 (some 135)) 128 21 (some 136))) [(.putfield 32, 0, 9, 21, 0, 0), (.aload_n 0, 0, 0, 0, 0, 0), (.sipush 1000, 0, 0, 0, 1000, 0)] (by decide +kernel) rfl rfl ⟨rfl, trivial, trivial, trivial⟩ ?_
  refine q_newi2 136 1000 rfl (by decide) (by decide) rfl (by decide) (q_clx 137 (N := 136) (fun n h k => q_Ihc n (by omega) k)) (q_clx 137 (N := 136) (fun n h k => q_Lhc n (by omega) k)) (q_clx 137 (N := 136) (q_clu (by decide) (q_clu (by decide) (q_clu (by decide) (q_clu (by decide) (q_clu (by decide) (q_clu (by decide) (q_clu (by decide) (q_clu (by decide) (fun n h k => q_Rhc n (by omega) k)))))))))) (by decide +kernel) ?_
  refine q_blk2 (pc2 := 86) (ls2 := [(0, .ref 128)]) (st2 := [.int 1000, .ref 128]) (h2 := (q_K0.take 137, q_Ih, q_Lh, q_u2 (q_u2 (q_u2 (q_u2 (q_u2 (q_u2 (q_u2 (q_u2 (q_u2 q_Rh 128 4 (some 129)) 128 5 (some 130)) 128 8 (some 131)) 128 9 (some 132)) 128 10 (some 133)) 128 19 (some 134)) 128 20 (some 135)) 128 21 (some 136)) 128 24 (some 137))) [(.putfield 35, 0, 9, 24, 0, 0), (.aload_n 0, 0, 0, 0, 0, 0), (.sipush 1000, 0, 0, 0, 1000, 0)] (by decide +kernel) rfl rfl ⟨rfl, trivial, trivial, trivial⟩ ?_
  refine q_newi2 137 1000 rfl (by decide) (by decide) rfl (by decide) (q_clx 138 (N := 137) (fun n h k => q_Ihc n (by omega) k)) (q_clx 138 (N := 137) (fun n h k => q_Lhc n (by omega) k)) (q_clx 138 (N := 137) (q_clu (by decide) (q_clu (by decide) (q_clu (by decide) (q_clu (by decide) (q_clu (by decide) (q_clu (by decide) (q_clu (by decide) (q_clu (by decide) (q_clu (by decide) (fun n h k => q_Rhc n (by omega) k))))))))))) (by decide +kernel) ?_
  refine q_blk2 (pc2 := 94) (ls2 := [(0, .ref 128)]) (st2 := [.int 20, .ref 128]) (h2 := (q_K0.take 138, q_Ih, q_Lh, q_u2 (q_u2 (q_u2 (q_u2 (q_u2 (q_u2 (q_u2 (q_u2 (q_u2 (q_u2 q_Rh 128 4 (some 129)) 128 5 (some 130)) 128 8 (some 131)) 128 9 (some 132)) 128 10 (some 133)) 128 19 (some 134)) 128 20 (some 135)) 128 21 (some 136)) 128 24 (some 137)) 128 25 (some 138))) [(.putfield 38, 0, 9, 25, 0, 0), (.aload_n 0, 0, 0, 0, 0, 0), (.bipush 20, 0, 0, 0, 20, 0)] (by decide +kernel) rfl rfl ⟨rfl, trivial, trivial, trivial⟩ ?_
  refine q_newi2 138 20 rfl (by decide) (by decide) rfl (by decide) (q_clx 139 (N := 138) (fun n h k => q_Ihc n (by omega) k)) (q_clx 139 (N := 138) (fun n h k => q_Lhc n (by omega) k)) (q_clx 139 (N := 138) (q_clu (by decide) (q_clu (by decide) (q_clu (by decide) (q_clu (by decide) (q_clu (by decide) (q_clu (by decide) (q_clu (by decide) (q_clu (by decide) (q_clu (by decide) (q_clu (by decide) (fun n h k => q_Rhc n (by omega) k)))))))))))) (by decide +kernel) ?_
  refine q_blk2 (pc2 := 103) (ls2 := [(0, .ref 128)]) (st2 := [.int 1000, .ref 128]) (h2 := (q_K0.take 139, q_Ih, q_Lh, q_u2 (q_u2 (q_u2 (q_u2 (q_u2 (q_u2 (q_u2 (q_u2 (q_u2 (q_u2 (q_u2 q_Rh 128 4 (some 129)) 128 5 (some 130)) 128 8 (some 131)) 128 9 (some 132)) 128 10 (some 133)) 128 19 (some 134)) 128 20 (some 135)) 128 21 (some 136)) 128 24 (some 137)) 128 25 (some 138)) 128 29 (some 139))) [(.putfield 41, 0, 9, 29, 0, 0), (.aload_n 0, 0, 0, 0, 0, 0), (.sipush 1000, 0, 0, 0, 1000, 0)] (by decide +kernel) rfl rfl ⟨rfl, trivial, trivial, trivial⟩ ?_
  refine q_newi2 139 1000 rfl (by decide) (by decide) rfl (by decide) (q_clx 140 (N := 139) (fun n h k => q_Ihc n (by omega) k)) (q_clx 140 (N := 139) (fun n h k => q_Lhc n (by omega) k)) (q_clx 140 (N := 139) (q_clu (by decide) (q_clu (by decide) (q_clu (by decide) (q_clu (by decide) (q_clu (by decide) (q_clu (by decide) (q_clu (by decide) (q_clu (by decide) (q_clu (by decide) (q_clu (by decide) (q_clu (by decide) (fun n h k => q_Rhc n (by omega) k))))))))))))) (by decide +kernel) ?_
  refine q_blk2 (pc2 := 112) (ls2 := [(0, .ref 128)]) (st2 := [.int 1000, .ref 128]) (h2 := (q_K0.take 140, q_Ih, q_Lh, q_u2 (q_u2 (q_u2 (q_u2 (q_u2 (q_u2 (q_u2 (q_u2 (q_u2 (q_u2 (q_u2 (q_u2 q_Rh 128 4 (some 129)) 128 5 (some 130)) 128 8 (some 131)) 128 9 (some 132)) 128 10 (some 133)) 128 19 (some 134)) 128 20 (some 135)) 128 21 (some 136)) 128 24 (some 137)) 128 25 (some 138)) 128 29 (some 139)) 128 30 (some 140))) [(.putfield 44, 0, 9, 30, 0, 0), (.aload_n 0, 0, 0, 0, 0, 0), (.sipush 1000, 0, 0, 0, 1000, 0)] (by decide +kernel) rfl rfl ⟨rfl, trivial, trivial, trivial⟩ ?_
  refine q_newi2 140 1000 rfl (by decide) (by decide) rfl (by decide) (q_clx 141 (N := 140) (fun n h k => q_Ihc n (by omega) k)) (q_clx 141 (N := 140) (fun n h k => q_Lhc n (by omega) k)) (q_clx 141 (N := 140) (q_clu (by decide) (q_clu (by decide) (q_clu (by decide) (q_clu (by decide) (q_clu (by decide) (q_clu (by decide) (q_clu (by decide) (q_clu (by decide) (q_clu (by decide) (q_clu (by decide) (q_clu (by decide) (q_clu (by decide) (fun n h k => q_Rhc n (by omega) k)))))))))))))) (by decide +kernel) ?_
  refine q_blk2 (pc2 := 121) (ls2 := [(0, .ref 128)]) (st2 := [.int 1000, .ref 128]) (h2 := (q_K0.take 141, q_Ih, q_Lh, q_u2 (q_u2 (q_u2 (q_u2 (q_u2 (q_u2 (q_u2 (q_u2 (q_u2 (q_u2 (q_u2 (q_u2 (q_u2 q_Rh 128 4 (some 129)) 128 5 (some 130)) 128 8 (some 131)) 128 9 (some 132)) 128 10 (some 133)) 128 19 (some 134)) 128 20 (some 135)) 128 21 (some 136)) 128 24 (some 137)) 128 25 (some 138)) 128 29 (some 139)) 128 30 (some 140)) 128 32 (some 141))) [(.putfield 47, 0, 9, 32, 0, 0), (.aload_n 0, 0, 0, 0, 0, 0), (.sipush 1000, 0, 0, 0, 1000, 0)] (by decide +kernel) rfl rfl ⟨rfl, trivial, trivial, trivial⟩ ?_
  refine q_newi2 141 1000 rfl (by decide) (by decide) rfl (by decide) (q_clx 142 (N := 141) (fun n h k => q_Ihc n (by omega) k)) (q_clx 142 (N := 141) (fun n h k => q_Lhc n (by omega) k)) (q_clx 142 (N := 141) (q_clu (by decide) (q_clu (by decide) (q_clu (by decide) (q_clu (by decide) (q_clu (by decide) (q_clu (by decide) (q_clu (by decide) (q_clu (by decide) (q_clu (by decide) (q_clu (by decide) (q_clu (by decide) (q_clu (by decide) (q_clu (by decide) (fun n h k => q_Rhc n (by omega) k))))))))))))))) (by decide +kernel) ?_
  refine q_blk2 (pc2 := 143) (ls2 := [(0, .ref 128)]) (st2 := [.int (-4), .ref 128]) (h2 := (q_K0.take 142, q_Ih, q_u2 (q_u2 q_Lh 131 (Int32.toNatClampNeg 0) 1) 131 (Int32.toNatClampNeg 3) 1, q_u2 (q_u2 (q_u2 (q_u2 (q_u2 (q_u2 (q_u2 (q_u2 (q_u2 (q_u2 (q_u2 (q_u2 (q_u2 (q_u2 q_Rh 128 4 (some 129)) 128 5 (some 130)) 128 8 (some 131)) 128 9 (some 132)) 128 10 (some 133)) 128 19 (some 134)) 128 20 (some 135)) 128 21 (some 136)) 128 24 (some 137)) 128 25 (some 138)) 128 29 (some 139)) 128 30 (some 140)) 128 32 (some 141)) 128 33 (some 142))) [(.putfield 50, 0, 9, 33, 0, 0), (.aload_n 0, 0, 0, 0, 0, 0), (.getfield 16, 0, 9, 8, 0, 0), (.iconst 0, 0, 0, 0, 0, 0), (.lconst 1, 0, 0, 0, 0, 1), (.lastore, 0, 0, 0, 0, 0), (.aload_n 0, 0, 0, 0, 0, 0), (.getfield 16, 0, 9, 8, 0, 0), (.iconst 3, 0, 0, 0, 3, 0), (.lconst 1, 0, 0, 0, 0, 1), (.lastore, 0, 0, 0, 0, 0), (.aload_n 0, 0, 0, 0, 0, 0), (.bipush (-4), 0, 0, 0, (-4), 0)] (by decide +kernel) rfl rfl ⟨rfl, trivial, rfl, trivial, trivial, ⟨_, rfl, vp_in_iff.mpr (by decide)⟩, trivial, rfl, trivial, trivial, ⟨_, rfl, vp_in_iff.mpr (by decide)⟩, trivial, trivial, trivial⟩ ?_
  have e9 : (q_K0.take 142, q_Ih, q_u2 (q_u2 q_Lh 131 (Int32.toNatClampNeg 0) 1) 131 (Int32.toNatClampNeg 3) 1, q_u2 (q_u2 (q_u2 (q_u2 (q_u2 (q_u2 (q_u2 (q_u2 (q_u2 (q_u2 (q_u2 (q_u2 (q_u2 (q_u2 q_Rh 128 4 (some 129)) 128 5 (some 130)) 128 8 (some 131)) 128 9 (some 132)) 128 10 (some 133)) 128 19 (some 134)) 128 20 (some 135)) 128 21 (some 136)) 128 24 (some 137)) 128 25 (some 138)) 128 29 (some 139)) 128 30 (some 140)) 128 32 (some 141)) 128 33 (some 142)) = ((q_K0, q_Ih, q_Lm, q_R0) : q_H) := by rw [q_Kfin, q_Rfin]; rfl
  rw [e9]
  refine q_cV0 (idx := 53) (h1 := (q_K0, zR.1, zR.2, q_R0)) [.int (-4), .ref 128] 111 128 9 [.int (-4)] [] rfl (by decide +kernel) (by decide +kernel) rfl (Nat.le_of_ble_eq_true rfl) rfl (by decide) (by decide +kernel) (by decide +kernel) (s_X10_becomes hB) ?_
  exact q_vret rfl (by decide +kernel)
def T_L_law_995 (xL : Nat) (xs : Nat → Int32) (z : q_Z) (l3 : Int32) : Option ((Int32 × q_Z) × Nat) :=
  some ((l3 + 7, z), 0)
set_option maxRecDepth 100000 in
set_option maxHeartbeats 4000000 in
theorem t_L_law_995 {xL : Nat} {xs : Nat → Int32} {z : q_Z} {l3 : Int32} {s2 : Int32 × q_Z} {t : Nat} {r : Option Value} {h2 : q_H} (h : T_L_law_995 xL xs z l3 = some (s2, t)) (k0 : t = 0 → q_Ex (some (xL, xs)) 163 18 [(0, .ref 0), (1, .ref 1), (2, .ref 128), (3, .int s2.1)] [] (q_K0, s2.2.1, s2.2.2, q_R0) r h2) (k1 : t = 1 → q_Ex (some (xL, xs)) 163 1001 [(0, .ref 0), (1, .ref 1), (2, .ref 128), (3, .int s2.1)] [] (q_K0, s2.2.1, s2.2.2, q_R0) r h2) : q_Ex (some (xL, xs)) 163 995 [(0, .ref 0), (1, .ref 1), (2, .ref 128), (3, .int l3)] [] (q_K0, z.1, z.2, q_R0) r h2 := by
  unfold T_L_law_995 at h
  refine q_blk2 (pc2 := 998) (ls2 := [(3, .int (l3 + 7)), (0, .ref 0), (1, .ref 1), (2, .ref 128)]) (st2 := []) (h2 := (q_K0, z.1, z.2, q_R0)) [(.iinc 3 7, 0, 0, 0, 7, 0)] (by decide +kernel) rfl rfl ⟨trivial, trivial⟩ ?_
  refine q_goto (off := -980) (tgt := 18) (by decide +kernel) (by decide) ?_
  cases h
  refine q_pick [1, 2, 3, 0] rfl ?_
  exact k0 rfl
def T_L_law_799 (xL : Nat) (xs : Nat → Int32) (z : q_Z) (l3 : Int32) (t0 : Int32) (t1 : Int32) (t2 : Int32) (t4 : Int64) : Option ((Int32 × q_Z) × Nat) :=
  (F_X10_near z t2 t1 t0).bind fun (r156, z157) =>
    if t4 = r156 then
      T_L_law_995 xL xs z157 l3
    else
      none
set_option maxRecDepth 100000 in
set_option maxHeartbeats 4000000 in
theorem t_L_law_799 {xL : Nat} {xs : Nat → Int32} {z : q_Z} {l3 : Int32} {t0 : Int32} {t1 : Int32} {t2 : Int32} {t4 : Int64} {s2 : Int32 × q_Z} {t : Nat} {r : Option Value} {h2 : q_H} (h : T_L_law_799 xL xs z l3 t0 t1 t2 t4 = some (s2, t)) (k0 : t = 0 → q_Ex (some (xL, xs)) 163 18 [(0, .ref 0), (1, .ref 1), (2, .ref 128), (3, .int s2.1)] [] (q_K0, s2.2.1, s2.2.2, q_R0) r h2) (k1 : t = 1 → q_Ex (some (xL, xs)) 163 1001 [(0, .ref 0), (1, .ref 1), (2, .ref 128), (3, .int s2.1)] [] (q_K0, s2.2.1, s2.2.2, q_R0) r h2) : q_Ex (some (xL, xs)) 163 799 [(0, .ref 0), (1, .ref 1), (2, .ref 128), (3, .int l3)] [.int t0, .int t1, .int t2, .ref 128, .long t4] (q_K0, z.1, z.2, q_R0) r h2 := by
  unfold T_L_law_799 at h
  obtain ⟨⟨r156, z157⟩, hc158, h⟩ := Option.bind_eq_some_iff.mp h
  dsimp only at h
  refine q_cV1 (idx := 111) (v := .long r156) (h1 := (q_K0, z157.1, z157.2, q_R0)) [.int t0, .int t1, .int t2, .ref 128, .long t4] 149 128 9 [.int t2, .int t1, .int t0] [.long t4] rfl (by decide +kernel) (by decide +kernel) rfl (Nat.le_of_ble_eq_true rfl) rfl (by decide) (by decide +kernel) (by decide +kernel) (s_X10_near hc158) ?_
  refine q_lc_eq (off := 192) (tgt := 995) (by decide +kernel) (by decide +kernel) (by decide) (fun c802_1 => ?_) (fun c802_1 => ?_)
  · rw [if_pos c802_1] at h
    refine q_pick [0, 1, 2, 3] rfl ?_
    exact t_L_law_995 h k0 k1
  · rw [if_neg c802_1] at h
    cases h
def T_L_law_772 (xL : Nat) (xs : Nat → Int32) (z : q_Z) (l3 : Int32) (t0 : Int32) (t1 : Int32) (t2 : Int32) : Option ((Int32 × q_Z) × Nat) :=
  (F_X9_near z t2 t1 t0).bind fun (r151, z152) =>
    if 0 ≤ Int32.toInt (l3 + 1) ∧ Int32.toInt (l3 + 1) < xL then
      if 0 ≤ Int32.toInt (l3 + 2) ∧ Int32.toInt (l3 + 2) < xL then
        if 0 ≤ Int32.toInt (l3 + 3) ∧ Int32.toInt (l3 + 3) < xL then
          if (xs (Int32.toNatClampNeg (l3 + 3))) = (0 : Int32) then
            T_L_law_799 xL xs z152 l3 0 (xs (Int32.toNatClampNeg (l3 + 2))) (xs (Int32.toNatClampNeg (l3 + 1))) r151
          else
            T_L_law_799 xL xs z152 l3 1 (xs (Int32.toNatClampNeg (l3 + 2))) (xs (Int32.toNatClampNeg (l3 + 1))) r151
        else none
      else none
    else none
set_option maxRecDepth 100000 in
set_option maxHeartbeats 4000000 in
theorem t_L_law_772 {xL : Nat} {xs : Nat → Int32} {z : q_Z} {l3 : Int32} {t0 : Int32} {t1 : Int32} {t2 : Int32} {s2 : Int32 × q_Z} {t : Nat} {r : Option Value} {h2 : q_H} (h : T_L_law_772 xL xs z l3 t0 t1 t2 = some (s2, t)) (k0 : t = 0 → q_Ex (some (xL, xs)) 163 18 [(0, .ref 0), (1, .ref 1), (2, .ref 128), (3, .int s2.1)] [] (q_K0, s2.2.1, s2.2.2, q_R0) r h2) (k1 : t = 1 → q_Ex (some (xL, xs)) 163 1001 [(0, .ref 0), (1, .ref 1), (2, .ref 128), (3, .int s2.1)] [] (q_K0, s2.2.1, s2.2.2, q_R0) r h2) : q_Ex (some (xL, xs)) 163 772 [(0, .ref 0), (1, .ref 1), (2, .ref 128), (3, .int l3)] [.int t0, .int t1, .int t2, .ref 1] (q_K0, z.1, z.2, q_R0) r h2 := by
  unfold T_L_law_772 at h
  obtain ⟨⟨r151, z152⟩, hc159, h⟩ := Option.bind_eq_some_iff.mp h
  dsimp only at h
  refine q_cV1 (idx := 107) (v := .long r151) (h1 := (q_K0, z152.1, z152.2, q_R0)) [.int t0, .int t1, .int t2, .ref 1] 81 1 8 [.int t2, .int t1, .int t0] [] rfl (by decide +kernel) (by decide +kernel) rfl (Nat.le_of_ble_eq_true rfl) rfl (by decide) (by decide +kernel) (by decide +kernel) (s_X9_near hc159) ?_
  refine q_blk2 (pc2 := 780) (ls2 := [(0, .ref 0), (1, .ref 1), (2, .ref 128), (3, .int l3)]) (st2 := [.int (l3 + 1), .ref 0, .ref 128, .long r151]) (h2 := (q_K0, z152.1, z152.2, q_R0)) [(.aload_n 2, 0, 0, 0, 0, 0), (.aload_n 0, 0, 0, 0, 0, 0), (.iload_n 3, 0, 0, 0, 0, 0), (.iconst 1, 0, 0, 0, 1, 0), (.iadd, 0, 0, 0, 0, 0)] (by decide +kernel) rfl rfl ⟨trivial, trivial, trivial, trivial, trivial, trivial⟩ ?_
  have b153 : 0 ≤ Int32.toInt (l3 + 1) ∧ Int32.toInt (l3 + 1) < xL := by
    by_cases q : 0 ≤ Int32.toInt (l3 + 1) ∧ Int32.toInt (l3 + 1) < xL
    · exact q
    · rw [if_neg q] at h; cases h
  rw [if_pos b153] at h
  refine q_sld rfl (vp_in_iff.mpr b153) (by decide +kernel) ?_
  refine q_blk2 (pc2 := 785) (ls2 := [(0, .ref 0), (1, .ref 1), (2, .ref 128), (3, .int l3)]) (st2 := [.int (l3 + 2), .ref 0, .int (xs (Int32.toNatClampNeg (l3 + 1))), .ref 128, .long r151]) (h2 := (q_K0, z152.1, z152.2, q_R0)) [(.aload_n 0, 0, 0, 0, 0, 0), (.iload_n 3, 0, 0, 0, 0, 0), (.iconst 2, 0, 0, 0, 2, 0), (.iadd, 0, 0, 0, 0, 0)] (by decide +kernel) rfl rfl ⟨trivial, trivial, trivial, trivial, trivial⟩ ?_
  have b154 : 0 ≤ Int32.toInt (l3 + 2) ∧ Int32.toInt (l3 + 2) < xL := by
    by_cases q : 0 ≤ Int32.toInt (l3 + 2) ∧ Int32.toInt (l3 + 2) < xL
    · exact q
    · rw [if_neg q] at h; cases h
  rw [if_pos b154] at h
  refine q_sld rfl (vp_in_iff.mpr b154) (by decide +kernel) ?_
  refine q_blk2 (pc2 := 790) (ls2 := [(0, .ref 0), (1, .ref 1), (2, .ref 128), (3, .int l3)]) (st2 := [.int (l3 + 3), .ref 0, .int (xs (Int32.toNatClampNeg (l3 + 2))), .int (xs (Int32.toNatClampNeg (l3 + 1))), .ref 128, .long r151]) (h2 := (q_K0, z152.1, z152.2, q_R0)) [(.aload_n 0, 0, 0, 0, 0, 0), (.iload_n 3, 0, 0, 0, 0, 0), (.iconst 3, 0, 0, 0, 3, 0), (.iadd, 0, 0, 0, 0, 0)] (by decide +kernel) rfl rfl ⟨trivial, trivial, trivial, trivial, trivial⟩ ?_
  have b155 : 0 ≤ Int32.toInt (l3 + 3) ∧ Int32.toInt (l3 + 3) < xL := by
    by_cases q : 0 ≤ Int32.toInt (l3 + 3) ∧ Int32.toInt (l3 + 3) < xL
    · exact q
    · rw [if_neg q] at h; cases h
  rw [if_pos b155] at h
  refine q_sld rfl (vp_in_iff.mpr b155) (by decide +kernel) ?_
  refine q_if_eq (off := 7) (tgt := 798) (by decide +kernel) (by decide) (fun c791_1 => ?_) (fun c791_1 => ?_)
  · rw [if_pos c791_1] at h
    refine q_blk2 (pc2 := 799) (ls2 := [(0, .ref 0), (1, .ref 1), (2, .ref 128), (3, .int l3)]) (st2 := [.int 0, .int (xs (Int32.toNatClampNeg (l3 + 2))), .int (xs (Int32.toNatClampNeg (l3 + 1))), .ref 128, .long r151]) (h2 := (q_K0, z152.1, z152.2, q_R0)) [(.iconst 0, 0, 0, 0, 0, 0)] (by decide +kernel) rfl rfl ⟨trivial, trivial⟩ ?_
    refine q_pick [0, 1, 2, 3] rfl ?_
    exact t_L_law_799 h k0 k1
  · rw [if_neg c791_1] at h
    refine q_blk2 (pc2 := 795) (ls2 := [(0, .ref 0), (1, .ref 1), (2, .ref 128), (3, .int l3)]) (st2 := [.int 1, .int (xs (Int32.toNatClampNeg (l3 + 2))), .int (xs (Int32.toNatClampNeg (l3 + 1))), .ref 128, .long r151]) (h2 := (q_K0, z152.1, z152.2, q_R0)) [(.iconst 1, 0, 0, 0, 1, 0)] (by decide +kernel) rfl rfl ⟨trivial, trivial⟩ ?_
    refine q_goto (off := 4) (tgt := 799) (by decide +kernel) (by decide) ?_
    refine q_pick [0, 1, 2, 3] rfl ?_
    exact t_L_law_799 h k0 k1
def T_L_law_938 (xL : Nat) (xs : Nat → Int32) (z : q_Z) (l3 : Int32) (t0 : Int32) (t1 : Int32) (t3 : Int32) : Option ((Int32 × q_Z) × Nat) :=
  (F_X10_pair z t1 t0).bind fun (r188, z189) =>
    if t3 = r188 then
      T_L_law_995 xL xs z189 l3
    else
      none
set_option maxRecDepth 100000 in
set_option maxHeartbeats 4000000 in
theorem t_L_law_938 {xL : Nat} {xs : Nat → Int32} {z : q_Z} {l3 : Int32} {t0 : Int32} {t1 : Int32} {t3 : Int32} {s2 : Int32 × q_Z} {t : Nat} {r : Option Value} {h2 : q_H} (h : T_L_law_938 xL xs z l3 t0 t1 t3 = some (s2, t)) (k0 : t = 0 → q_Ex (some (xL, xs)) 163 18 [(0, .ref 0), (1, .ref 1), (2, .ref 128), (3, .int s2.1)] [] (q_K0, s2.2.1, s2.2.2, q_R0) r h2) (k1 : t = 1 → q_Ex (some (xL, xs)) 163 1001 [(0, .ref 0), (1, .ref 1), (2, .ref 128), (3, .int s2.1)] [] (q_K0, s2.2.1, s2.2.2, q_R0) r h2) : q_Ex (some (xL, xs)) 163 938 [(0, .ref 0), (1, .ref 1), (2, .ref 128), (3, .int l3)] [.int t0, .int t1, .ref 128, .int t3] (q_K0, z.1, z.2, q_R0) r h2 := by
  unfold T_L_law_938 at h
  obtain ⟨⟨r188, z189⟩, hc190, h⟩ := Option.bind_eq_some_iff.mp h
  dsimp only at h
  refine q_cV1 (idx := 128) (v := .int r188) (h1 := (q_K0, z189.1, z189.2, q_R0)) [.int t0, .int t1, .ref 128, .int t3] 154 128 9 [.int t1, .int t0] [.int t3] rfl (by decide +kernel) (by decide +kernel) rfl (Nat.le_of_ble_eq_true rfl) rfl (by decide) (by decide +kernel) (by decide +kernel) (s_X10_pair hc190) ?_
  refine q_ic_eq (off := 54) (tgt := 995) (by decide +kernel) (by decide) (fun c941_1 => ?_) (fun c941_1 => ?_)
  · rw [if_pos c941_1] at h
    refine q_pick [0, 1, 2, 3] rfl ?_
    exact t_L_law_995 h k0 k1
  · rw [if_neg c941_1] at h
    cases h
def T_L_law_916 (xL : Nat) (xs : Nat → Int32) (z : q_Z) (l3 : Int32) (t0 : Int32) (t1 : Int32) : Option ((Int32 × q_Z) × Nat) :=
  (F_X9_pair z t1 t0).bind fun (r184, z185) =>
    if 0 ≤ Int32.toInt (l3 + 1) ∧ Int32.toInt (l3 + 1) < xL then
      if 0 ≤ Int32.toInt (l3 + 2) ∧ Int32.toInt (l3 + 2) < xL then
        if (xs (Int32.toNatClampNeg (l3 + 2))) = (0 : Int32) then
          T_L_law_938 xL xs z185 l3 0 (xs (Int32.toNatClampNeg (l3 + 1))) r184
        else
          T_L_law_938 xL xs z185 l3 1 (xs (Int32.toNatClampNeg (l3 + 1))) r184
      else none
    else none
set_option maxRecDepth 100000 in
set_option maxHeartbeats 4000000 in
theorem t_L_law_916 {xL : Nat} {xs : Nat → Int32} {z : q_Z} {l3 : Int32} {t0 : Int32} {t1 : Int32} {s2 : Int32 × q_Z} {t : Nat} {r : Option Value} {h2 : q_H} (h : T_L_law_916 xL xs z l3 t0 t1 = some (s2, t)) (k0 : t = 0 → q_Ex (some (xL, xs)) 163 18 [(0, .ref 0), (1, .ref 1), (2, .ref 128), (3, .int s2.1)] [] (q_K0, s2.2.1, s2.2.2, q_R0) r h2) (k1 : t = 1 → q_Ex (some (xL, xs)) 163 1001 [(0, .ref 0), (1, .ref 1), (2, .ref 128), (3, .int s2.1)] [] (q_K0, s2.2.1, s2.2.2, q_R0) r h2) : q_Ex (some (xL, xs)) 163 916 [(0, .ref 0), (1, .ref 1), (2, .ref 128), (3, .int l3)] [.int t0, .int t1, .ref 1] (q_K0, z.1, z.2, q_R0) r h2 := by
  unfold T_L_law_916 at h
  obtain ⟨⟨r184, z185⟩, hc191, h⟩ := Option.bind_eq_some_iff.mp h
  dsimp only at h
  refine q_cV1 (idx := 124) (v := .int r184) (h1 := (q_K0, z185.1, z185.2, q_R0)) [.int t0, .int t1, .ref 1] 85 1 8 [.int t1, .int t0] [] rfl (by decide +kernel) (by decide +kernel) rfl (Nat.le_of_ble_eq_true rfl) rfl (by decide) (by decide +kernel) (by decide +kernel) (s_X9_pair hc191) ?_
  refine q_blk2 (pc2 := 924) (ls2 := [(0, .ref 0), (1, .ref 1), (2, .ref 128), (3, .int l3)]) (st2 := [.int (l3 + 1), .ref 0, .ref 128, .int r184]) (h2 := (q_K0, z185.1, z185.2, q_R0)) [(.aload_n 2, 0, 0, 0, 0, 0), (.aload_n 0, 0, 0, 0, 0, 0), (.iload_n 3, 0, 0, 0, 0, 0), (.iconst 1, 0, 0, 0, 1, 0), (.iadd, 0, 0, 0, 0, 0)] (by decide +kernel) rfl rfl ⟨trivial, trivial, trivial, trivial, trivial, trivial⟩ ?_
  have b186 : 0 ≤ Int32.toInt (l3 + 1) ∧ Int32.toInt (l3 + 1) < xL := by
    by_cases q : 0 ≤ Int32.toInt (l3 + 1) ∧ Int32.toInt (l3 + 1) < xL
    · exact q
    · rw [if_neg q] at h; cases h
  rw [if_pos b186] at h
  refine q_sld rfl (vp_in_iff.mpr b186) (by decide +kernel) ?_
  refine q_blk2 (pc2 := 929) (ls2 := [(0, .ref 0), (1, .ref 1), (2, .ref 128), (3, .int l3)]) (st2 := [.int (l3 + 2), .ref 0, .int (xs (Int32.toNatClampNeg (l3 + 1))), .ref 128, .int r184]) (h2 := (q_K0, z185.1, z185.2, q_R0)) [(.aload_n 0, 0, 0, 0, 0, 0), (.iload_n 3, 0, 0, 0, 0, 0), (.iconst 2, 0, 0, 0, 2, 0), (.iadd, 0, 0, 0, 0, 0)] (by decide +kernel) rfl rfl ⟨trivial, trivial, trivial, trivial, trivial⟩ ?_
  have b187 : 0 ≤ Int32.toInt (l3 + 2) ∧ Int32.toInt (l3 + 2) < xL := by
    by_cases q : 0 ≤ Int32.toInt (l3 + 2) ∧ Int32.toInt (l3 + 2) < xL
    · exact q
    · rw [if_neg q] at h; cases h
  rw [if_pos b187] at h
  refine q_sld rfl (vp_in_iff.mpr b187) (by decide +kernel) ?_
  refine q_if_eq (off := 7) (tgt := 937) (by decide +kernel) (by decide) (fun c930_1 => ?_) (fun c930_1 => ?_)
  · rw [if_pos c930_1] at h
    refine q_blk2 (pc2 := 938) (ls2 := [(0, .ref 0), (1, .ref 1), (2, .ref 128), (3, .int l3)]) (st2 := [.int 0, .int (xs (Int32.toNatClampNeg (l3 + 1))), .ref 128, .int r184]) (h2 := (q_K0, z185.1, z185.2, q_R0)) [(.iconst 0, 0, 0, 0, 0, 0)] (by decide +kernel) rfl rfl ⟨trivial, trivial⟩ ?_
    refine q_pick [0, 1, 2, 3] rfl ?_
    exact t_L_law_938 h k0 k1
  · rw [if_neg c930_1] at h
    refine q_blk2 (pc2 := 934) (ls2 := [(0, .ref 0), (1, .ref 1), (2, .ref 128), (3, .int l3)]) (st2 := [.int 1, .int (xs (Int32.toNatClampNeg (l3 + 1))), .ref 128, .int r184]) (h2 := (q_K0, z185.1, z185.2, q_R0)) [(.iconst 1, 0, 0, 0, 1, 0)] (by decide +kernel) rfl rfl ⟨trivial, trivial⟩ ?_
    refine q_goto (off := 4) (tgt := 938) (by decide +kernel) (by decide) ?_
    refine q_pick [0, 1, 2, 3] rfl ?_
    exact t_L_law_938 h k0 k1
def B_L_law_18 (xL : Nat) (xs : Nat → Int32) : Int32 × q_Z → Option ((Int32 × q_Z) × Nat) := fun (l3, z) =>
  if ((Int32.ofNat xL) - 7) < l3 then
    some ((l3, z), 1)
  else
    if 0 ≤ Int32.toInt l3 ∧ Int32.toInt l3 < xL then
      if (xs (Int32.toNatClampNeg l3)) &&& 31 = (0 : Int32) then
        if 0 ≤ Int32.toInt (l3 + 1) ∧ Int32.toInt (l3 + 1) < xL then
          (F_X9_root z (xs (Int32.toNatClampNeg (l3 + 1)))).bind fun (r3, z4) =>
            if 0 ≤ Int32.toInt (l3 + 1) ∧ Int32.toInt (l3 + 1) < xL then
              (F_X10_root z4 (xs (Int32.toNatClampNeg (l3 + 1)))).bind fun (r6, z7) =>
                if r3 = r6 then
                  T_L_law_995 xL xs z7 l3
                else
                  none
            else none
        else none
      else
        if (xs (Int32.toNatClampNeg l3)) &&& 31 = (1 : Int32) then
          if 0 ≤ Int32.toInt (l3 + 1) ∧ Int32.toInt (l3 + 1) < xL then
            if 0 ≤ Int32.toInt (l3 + 2) ∧ Int32.toInt (l3 + 2) < xL then
              (F_X9_form z (xs (Int32.toNatClampNeg (l3 + 1))) (xs (Int32.toNatClampNeg (l3 + 2)))).bind fun (r10, z11) =>
                if 0 ≤ Int32.toInt (l3 + 1) ∧ Int32.toInt (l3 + 1) < xL then
                  if 0 ≤ Int32.toInt (l3 + 2) ∧ Int32.toInt (l3 + 2) < xL then
                    (F_X10_form z11 (xs (Int32.toNatClampNeg (l3 + 1))) (xs (Int32.toNatClampNeg (l3 + 2)))).bind fun (r14, z15) =>
                      if r10 = r14 then
                        T_L_law_995 xL xs z15 l3
                      else
                        none
                  else none
                else none
            else none
          else none
        else
          if (xs (Int32.toNatClampNeg l3)) &&& 31 = (2 : Int32) then
            if 0 ≤ Int32.toInt (l3 + 1) ∧ Int32.toInt (l3 + 1) < xL then
              if 0 ≤ Int32.toInt (l3 + 2) ∧ Int32.toInt (l3 + 2) < xL then
                (F_X9_number z (xs (Int32.toNatClampNeg (l3 + 1))) (xs (Int32.toNatClampNeg (l3 + 2)))).bind fun (r18, z19) =>
                  if 0 ≤ Int32.toInt (l3 + 1) ∧ Int32.toInt (l3 + 1) < xL then
                    if 0 ≤ Int32.toInt (l3 + 2) ∧ Int32.toInt (l3 + 2) < xL then
                      (F_X10_number z19 (xs (Int32.toNatClampNeg (l3 + 1))) (xs (Int32.toNatClampNeg (l3 + 2)))).bind fun (r22, z23) =>
                        if r18 = r22 then
                          T_L_law_995 xL xs z23 l3
                        else
                          none
                    else none
                  else none
              else none
            else none
          else
            if (xs (Int32.toNatClampNeg l3)) &&& 31 = (3 : Int32) then
              if 0 ≤ Int32.toInt (l3 + 1) ∧ Int32.toInt (l3 + 1) < xL then
                (F_X9_least z (xs (Int32.toNatClampNeg (l3 + 1)))).bind fun (r25, z26) =>
                  if 0 ≤ Int32.toInt (l3 + 1) ∧ Int32.toInt (l3 + 1) < xL then
                    (F_X10_least z26 (xs (Int32.toNatClampNeg (l3 + 1)))).bind fun (r28, z29) =>
                      if r25 = r28 then
                        T_L_law_995 xL xs z29 l3
                      else
                        none
                  else none
              else none
            else
              if (xs (Int32.toNatClampNeg l3)) &&& 31 = (4 : Int32) then
                if 0 ≤ Int32.toInt (l3 + 1) ∧ Int32.toInt (l3 + 1) < xL then
                  (F_X9_step z (xs (Int32.toNatClampNeg (l3 + 1)))).bind fun (r31, z32) =>
                    if 0 ≤ Int32.toInt (l3 + 1) ∧ Int32.toInt (l3 + 1) < xL then
                      (F_X10_step z32 (xs (Int32.toNatClampNeg (l3 + 1)))).bind fun (r34, z35) =>
                        if r31 = r34 then
                          T_L_law_995 xL xs z35 l3
                        else
                          none
                    else none
                else none
              else
                if (xs (Int32.toNatClampNeg l3)) &&& 31 = (5 : Int32) then
                  if 0 ≤ Int32.toInt (l3 + 1) ∧ Int32.toInt (l3 + 1) < xL then
                    (F_X9_reduce z (xs (Int32.toNatClampNeg (l3 + 1)))).bind fun (r37, z38) =>
                      if 0 ≤ Int32.toInt (l3 + 1) ∧ Int32.toInt (l3 + 1) < xL then
                        (F_X10_reduce z38 (xs (Int32.toNatClampNeg (l3 + 1)))).bind fun (r40, z41) =>
                          if r37 = r40 then
                            T_L_law_995 xL xs z41 l3
                          else
                            none
                      else none
                  else none
                else
                  if (xs (Int32.toNatClampNeg l3)) &&& 31 = (6 : Int32) then
                    if 0 ≤ Int32.toInt (l3 + 1) ∧ Int32.toInt (l3 + 1) < xL then
                      (F_X9_way z (xs (Int32.toNatClampNeg (l3 + 1)))).bind fun (r43, z44) =>
                        if 0 ≤ Int32.toInt (l3 + 1) ∧ Int32.toInt (l3 + 1) < xL then
                          (F_X10_way z44 (xs (Int32.toNatClampNeg (l3 + 1)))).bind fun (r46, z47) =>
                            if r43 = r46 then
                              T_L_law_995 xL xs z47 l3
                            else
                              none
                        else none
                    else none
                  else
                    if (xs (Int32.toNatClampNeg l3)) &&& 31 = (7 : Int32) then
                      if 0 ≤ Int32.toInt (l3 + 1) ∧ Int32.toInt (l3 + 1) < xL then
                        (F_X9_ring z (xs (Int32.toNatClampNeg (l3 + 1)))).bind fun (r49, z50) =>
                          if 0 ≤ Int32.toInt (l3 + 1) ∧ Int32.toInt (l3 + 1) < xL then
                            (F_X10_ring z50 (xs (Int32.toNatClampNeg (l3 + 1)))).bind fun (r52, z53) =>
                              if r49 = r52 then
                                T_L_law_995 xL xs z53 l3
                              else
                                none
                          else none
                      else none
                    else
                      if (xs (Int32.toNatClampNeg l3)) &&& 31 = (8 : Int32) then
                        if 0 ≤ Int32.toInt (l3 + 1) ∧ Int32.toInt (l3 + 1) < xL then
                          (F_X9_classOf z (xs (Int32.toNatClampNeg (l3 + 1)))).bind fun (r55, z56) =>
                            if 0 ≤ Int32.toInt (l3 + 1) ∧ Int32.toInt (l3 + 1) < xL then
                              (F_X10_classOf z56 (xs (Int32.toNatClampNeg (l3 + 1)))).bind fun (r58, z59) =>
                                if r55 = r58 then
                                  T_L_law_995 xL xs z59 l3
                                else
                                  none
                            else none
                        else none
                      else
                        if (xs (Int32.toNatClampNeg l3)) &&& 31 = (9 : Int32) then
                          if 0 ≤ Int32.toInt (l3 + 1) ∧ Int32.toInt (l3 + 1) < xL then
                            if 0 ≤ Int32.toInt (l3 + 2) ∧ Int32.toInt (l3 + 2) < xL then
                              if 0 ≤ Int32.toInt (l3 + 3) ∧ Int32.toInt (l3 + 3) < xL then
                                if 0 ≤ Int32.toInt (l3 + 4) ∧ Int32.toInt (l3 + 4) < xL then
                                  if 0 ≤ Int32.toInt (l3 + 5) ∧ Int32.toInt (l3 + 5) < xL then
                                    if 0 ≤ Int32.toInt (l3 + 6) ∧ Int32.toInt (l3 + 6) < xL then
                                      (F_X9_check z (xs (Int32.toNatClampNeg (l3 + 1))) (xs (Int32.toNatClampNeg (l3 + 2))) (xs (Int32.toNatClampNeg (l3 + 3))) (xs (Int32.toNatClampNeg (l3 + 4))) (xs (Int32.toNatClampNeg (l3 + 5))) (xs (Int32.toNatClampNeg (l3 + 6)))).bind fun (r66, z67) =>
                                        if 0 ≤ Int32.toInt (l3 + 1) ∧ Int32.toInt (l3 + 1) < xL then
                                          if 0 ≤ Int32.toInt (l3 + 2) ∧ Int32.toInt (l3 + 2) < xL then
                                            if 0 ≤ Int32.toInt (l3 + 3) ∧ Int32.toInt (l3 + 3) < xL then
                                              if 0 ≤ Int32.toInt (l3 + 4) ∧ Int32.toInt (l3 + 4) < xL then
                                                if 0 ≤ Int32.toInt (l3 + 5) ∧ Int32.toInt (l3 + 5) < xL then
                                                  if 0 ≤ Int32.toInt (l3 + 6) ∧ Int32.toInt (l3 + 6) < xL then
                                                    (F_X10_check z67 (xs (Int32.toNatClampNeg (l3 + 1))) (xs (Int32.toNatClampNeg (l3 + 2))) (xs (Int32.toNatClampNeg (l3 + 3))) (xs (Int32.toNatClampNeg (l3 + 4))) (xs (Int32.toNatClampNeg (l3 + 5))) (xs (Int32.toNatClampNeg (l3 + 6)))).bind fun (r74, z75) =>
                                                      if r66 = r74 then
                                                        T_L_law_995 xL xs z75 l3
                                                      else
                                                        none
                                                  else none
                                                else none
                                              else none
                                            else none
                                          else none
                                        else none
                                    else none
                                  else none
                                else none
                              else none
                            else none
                          else none
                        else
                          if (xs (Int32.toNatClampNeg l3)) &&& 31 = (10 : Int32) then
                            (F_X9_classes z).bind fun (r76, z77) =>
                              (F_X10_classes z77).bind fun (r78, z79) =>
                                if r76 = r78 then
                                  T_L_law_995 xL xs z79 l3
                                else
                                  none
                          else
                            if (xs (Int32.toNatClampNeg l3)) &&& 31 = (11 : Int32) then
                              if 0 ≤ Int32.toInt (l3 + 1) ∧ Int32.toInt (l3 + 1) < xL then
                                if 0 ≤ Int32.toInt (l3 + 2) ∧ Int32.toInt (l3 + 2) < xL then
                                  (F_X9_head z (xs (Int32.toNatClampNeg (l3 + 1))) (xs (Int32.toNatClampNeg (l3 + 2)))).bind fun (r82, z83) =>
                                    if 0 ≤ Int32.toInt (l3 + 1) ∧ Int32.toInt (l3 + 1) < xL then
                                      if 0 ≤ Int32.toInt (l3 + 2) ∧ Int32.toInt (l3 + 2) < xL then
                                        (F_X10_head z83 (xs (Int32.toNatClampNeg (l3 + 1))) (xs (Int32.toNatClampNeg (l3 + 2)))).bind fun (r86, z87) =>
                                          if r82 = r86 then
                                            T_L_law_995 xL xs z87 l3
                                          else
                                            none
                                      else none
                                    else none
                                else none
                              else none
                            else
                              if (xs (Int32.toNatClampNeg l3)) &&& 31 = (12 : Int32) then
                                (F_X9_one z).bind fun (r88, z89) =>
                                  (F_X10_one z89).bind fun (r90, z91) =>
                                    if r88 = r90 then
                                      T_L_law_995 xL xs z91 l3
                                    else
                                      none
                              else
                                if (xs (Int32.toNatClampNeg l3)) &&& 31 = (13 : Int32) then
                                  if 0 ≤ Int32.toInt (l3 + 1) ∧ Int32.toInt (l3 + 1) < xL then
                                    if 0 ≤ Int32.toInt (l3 + 2) ∧ Int32.toInt (l3 + 2) < xL then
                                      (F_X9_join z (xs (Int32.toNatClampNeg (l3 + 1))) (xs (Int32.toNatClampNeg (l3 + 2)))).bind fun (r94, z95) =>
                                        if 0 ≤ Int32.toInt (l3 + 1) ∧ Int32.toInt (l3 + 1) < xL then
                                          if 0 ≤ Int32.toInt (l3 + 2) ∧ Int32.toInt (l3 + 2) < xL then
                                            (F_X10_join z95 (xs (Int32.toNatClampNeg (l3 + 1))) (xs (Int32.toNatClampNeg (l3 + 2)))).bind fun (r98, z99) =>
                                              if r94 = r98 then
                                                T_L_law_995 xL xs z99 l3
                                              else
                                                none
                                          else none
                                        else none
                                    else none
                                  else none
                                else
                                  if (xs (Int32.toNatClampNeg l3)) &&& 31 = (14 : Int32) then
                                    if 0 ≤ Int32.toInt (l3 + 1) ∧ Int32.toInt (l3 + 1) < xL then
                                      (F_X9_back z (xs (Int32.toNatClampNeg (l3 + 1)))).bind fun (r101, z102) =>
                                        if 0 ≤ Int32.toInt (l3 + 1) ∧ Int32.toInt (l3 + 1) < xL then
                                          (F_X10_back z102 (xs (Int32.toNatClampNeg (l3 + 1)))).bind fun (r104, z105) =>
                                            if r101 = r104 then
                                              T_L_law_995 xL xs z105 l3
                                            else
                                              none
                                        else none
                                    else none
                                  else
                                    if (xs (Int32.toNatClampNeg l3)) &&& 31 = (15 : Int32) then
                                      if 0 ≤ Int32.toInt (l3 + 1) ∧ Int32.toInt (l3 + 1) < xL then
                                        (F_X9_order z (xs (Int32.toNatClampNeg (l3 + 1)))).bind fun (r107, z108) =>
                                          if 0 ≤ Int32.toInt (l3 + 1) ∧ Int32.toInt (l3 + 1) < xL then
                                            (F_X10_order z108 (xs (Int32.toNatClampNeg (l3 + 1)))).bind fun (r110, z111) =>
                                              if r107 = r110 then
                                                T_L_law_995 xL xs z111 l3
                                              else
                                                none
                                          else none
                                      else none
                                    else
                                      if (xs (Int32.toNatClampNeg l3)) &&& 31 = (16 : Int32) then
                                        if 0 ≤ Int32.toInt (l3 + 1) ∧ Int32.toInt (l3 + 1) < xL then
                                          (F_X9_group z (xs (Int32.toNatClampNeg (l3 + 1)))).bind fun (r113, z114) =>
                                            if 0 ≤ Int32.toInt (l3 + 1) ∧ Int32.toInt (l3 + 1) < xL then
                                              (F_X10_group z114 (xs (Int32.toNatClampNeg (l3 + 1)))).bind fun (r116, z117) =>
                                                if r113 = r116 then
                                                  T_L_law_995 xL xs z117 l3
                                                else
                                                  none
                                            else none
                                        else none
                                      else
                                        if (xs (Int32.toNatClampNeg l3)) &&& 31 = (17 : Int32) then
                                          if 0 ≤ Int32.toInt (l3 + 1) ∧ Int32.toInt (l3 + 1) < xL then
                                            (F_X9_genus z (xs (Int32.toNatClampNeg (l3 + 1)))).bind fun (r119, z120) =>
                                              if 0 ≤ Int32.toInt (l3 + 1) ∧ Int32.toInt (l3 + 1) < xL then
                                                (F_X10_genus z120 (xs (Int32.toNatClampNeg (l3 + 1)))).bind fun (r122, z123) =>
                                                  if r119 = r122 then
                                                    T_L_law_995 xL xs z123 l3
                                                  else
                                                    none
                                              else none
                                          else none
                                        else
                                          if (xs (Int32.toNatClampNeg l3)) &&& 31 = (18 : Int32) then
                                            (F_X9_genera z).bind fun (r124, z125) =>
                                              (F_X10_genera z125).bind fun (r126, z127) =>
                                                if r124 = r126 then
                                                  T_L_law_995 xL xs z127 l3
                                                else
                                                  none
                                          else
                                            if (xs (Int32.toNatClampNeg l3)) &&& 31 = (19 : Int32) then
                                              if 0 ≤ Int32.toInt (l3 + 1) ∧ Int32.toInt (l3 + 1) < xL then
                                                (F_X9_unit z (xs (Int32.toNatClampNeg (l3 + 1)))).bind fun (r129, z130) =>
                                                  if 0 ≤ Int32.toInt (l3 + 1) ∧ Int32.toInt (l3 + 1) < xL then
                                                    (F_X10_unit z130 (xs (Int32.toNatClampNeg (l3 + 1)))).bind fun (r132, z133) =>
                                                      if r129 = r132 then
                                                        T_L_law_995 xL xs z133 l3
                                                      else
                                                        none
                                                  else none
                                              else none
                                            else
                                              if (xs (Int32.toNatClampNeg l3)) &&& 31 = (20 : Int32) then
                                                if 0 ≤ Int32.toInt (l3 + 1) ∧ Int32.toInt (l3 + 1) < xL then
                                                  (F_X9_period z (xs (Int32.toNatClampNeg (l3 + 1)))).bind fun (r135, z136) =>
                                                    if 0 ≤ Int32.toInt (l3 + 1) ∧ Int32.toInt (l3 + 1) < xL then
                                                      (F_X10_period z136 (xs (Int32.toNatClampNeg (l3 + 1)))).bind fun (r138, z139) =>
                                                        if r135 = r138 then
                                                          T_L_law_995 xL xs z139 l3
                                                        else
                                                          none
                                                    else none
                                                else none
                                              else
                                                if (xs (Int32.toNatClampNeg l3)) &&& 31 = (21 : Int32) then
                                                  if 0 ≤ Int32.toInt (l3 + 1) ∧ Int32.toInt (l3 + 1) < xL then
                                                    if 0 ≤ Int32.toInt (l3 + 2) ∧ Int32.toInt (l3 + 2) < xL then
                                                      (F_X9_quotient z (xs (Int32.toNatClampNeg (l3 + 1))) (xs (Int32.toNatClampNeg (l3 + 2)))).bind fun (r142, z143) =>
                                                        if 0 ≤ Int32.toInt (l3 + 1) ∧ Int32.toInt (l3 + 1) < xL then
                                                          if 0 ≤ Int32.toInt (l3 + 2) ∧ Int32.toInt (l3 + 2) < xL then
                                                            (F_X10_quotient z143 (xs (Int32.toNatClampNeg (l3 + 1))) (xs (Int32.toNatClampNeg (l3 + 2)))).bind fun (r146, z147) =>
                                                              if r142 = r146 then
                                                                T_L_law_995 xL xs z147 l3
                                                              else
                                                                none
                                                          else none
                                                        else none
                                                    else none
                                                  else none
                                                else
                                                  if (xs (Int32.toNatClampNeg l3)) &&& 31 = (22 : Int32) then
                                                    if 0 ≤ Int32.toInt (l3 + 1) ∧ Int32.toInt (l3 + 1) < xL then
                                                      if 0 ≤ Int32.toInt (l3 + 2) ∧ Int32.toInt (l3 + 2) < xL then
                                                        if 0 ≤ Int32.toInt (l3 + 3) ∧ Int32.toInt (l3 + 3) < xL then
                                                          if (xs (Int32.toNatClampNeg (l3 + 3))) = (0 : Int32) then
                                                            T_L_law_772 xL xs z l3 0 (xs (Int32.toNatClampNeg (l3 + 2))) (xs (Int32.toNatClampNeg (l3 + 1)))
                                                          else
                                                            T_L_law_772 xL xs z l3 1 (xs (Int32.toNatClampNeg (l3 + 2))) (xs (Int32.toNatClampNeg (l3 + 1)))
                                                        else none
                                                      else none
                                                    else none
                                                  else
                                                    if (xs (Int32.toNatClampNeg l3)) &&& 31 = (23 : Int32) then
                                                      if 0 ≤ Int32.toInt (l3 + 1) ∧ Int32.toInt (l3 + 1) < xL then
                                                        if 0 ≤ Int32.toInt (l3 + 2) ∧ Int32.toInt (l3 + 2) < xL then
                                                          (F_X9_takes z (xs (Int32.toNatClampNeg (l3 + 1))) (xs (Int32.toNatClampNeg (l3 + 2)))).bind fun (r162, z163) =>
                                                            if 0 ≤ Int32.toInt (l3 + 1) ∧ Int32.toInt (l3 + 1) < xL then
                                                              if 0 ≤ Int32.toInt (l3 + 2) ∧ Int32.toInt (l3 + 2) < xL then
                                                                (F_X10_takes z163 (xs (Int32.toNatClampNeg (l3 + 1))) (xs (Int32.toNatClampNeg (l3 + 2)))).bind fun (r166, z167) =>
                                                                  if r162 = r166 then
                                                                    T_L_law_995 xL xs z167 l3
                                                                  else
                                                                    none
                                                              else none
                                                            else none
                                                        else none
                                                      else none
                                                    else
                                                      if (xs (Int32.toNatClampNeg l3)) &&& 31 = (24 : Int32) then
                                                        if 0 ≤ Int32.toInt (l3 + 1) ∧ Int32.toInt (l3 + 1) < xL then
                                                          if 0 ≤ Int32.toInt (l3 + 2) ∧ Int32.toInt (l3 + 2) < xL then
                                                            (F_X9_proper z (xs (Int32.toNatClampNeg (l3 + 1))) (xs (Int32.toNatClampNeg (l3 + 2)))).bind fun (r170, z171) =>
                                                              if 0 ≤ Int32.toInt (l3 + 1) ∧ Int32.toInt (l3 + 1) < xL then
                                                                if 0 ≤ Int32.toInt (l3 + 2) ∧ Int32.toInt (l3 + 2) < xL then
                                                                  (F_X10_proper z171 (xs (Int32.toNatClampNeg (l3 + 1))) (xs (Int32.toNatClampNeg (l3 + 2)))).bind fun (r174, z175) =>
                                                                    if r170 = r174 then
                                                                      T_L_law_995 xL xs z175 l3
                                                                    else
                                                                      none
                                                                else none
                                                              else none
                                                          else none
                                                        else none
                                                      else
                                                        if (xs (Int32.toNatClampNeg l3)) &&& 31 = (25 : Int32) then
                                                          if 0 ≤ Int32.toInt (l3 + 1) ∧ Int32.toInt (l3 + 1) < xL then
                                                            (F_X9_squares z (xs (Int32.toNatClampNeg (l3 + 1)))).bind fun (r177, z178) =>
                                                              if 0 ≤ Int32.toInt (l3 + 1) ∧ Int32.toInt (l3 + 1) < xL then
                                                                (F_X10_squares z178 (xs (Int32.toNatClampNeg (l3 + 1)))).bind fun (r180, z181) =>
                                                                  if r177 = r180 then
                                                                    T_L_law_995 xL xs z181 l3
                                                                  else
                                                                    none
                                                              else none
                                                          else none
                                                        else
                                                          if (xs (Int32.toNatClampNeg l3)) &&& 31 = (26 : Int32) then
                                                            if 0 ≤ Int32.toInt (l3 + 1) ∧ Int32.toInt (l3 + 1) < xL then
                                                              if 0 ≤ Int32.toInt (l3 + 2) ∧ Int32.toInt (l3 + 2) < xL then
                                                                if (xs (Int32.toNatClampNeg (l3 + 2))) = (0 : Int32) then
                                                                  T_L_law_916 xL xs z l3 0 (xs (Int32.toNatClampNeg (l3 + 1)))
                                                                else
                                                                  T_L_law_916 xL xs z l3 1 (xs (Int32.toNatClampNeg (l3 + 1)))
                                                              else none
                                                            else none
                                                          else
                                                            if (xs (Int32.toNatClampNeg l3)) &&& 31 = (27 : Int32) then
                                                              (F_X9_undo z).bind fun (r192, z193) =>
                                                                (F_X10_undo z193).bind fun (r194, z195) =>
                                                                  if r192 = r194 then
                                                                    T_L_law_995 xL xs z195 l3
                                                                  else
                                                                    none
                                                            else
                                                              if (xs (Int32.toNatClampNeg l3)) &&& 31 = (28 : Int32) then
                                                                if 0 ≤ Int32.toInt (l3 + 1) ∧ Int32.toInt (l3 + 1) < xL then
                                                                  (F_X9_size z (xs (Int32.toNatClampNeg (l3 + 1)))).bind fun (r197, z198) =>
                                                                    if 0 ≤ Int32.toInt (l3 + 1) ∧ Int32.toInt (l3 + 1) < xL then
                                                                      (F_X10_size z198 (xs (Int32.toNatClampNeg (l3 + 1)))).bind fun (r200, z201) =>
                                                                        if r197 = r200 then
                                                                          T_L_law_995 xL xs z201 l3
                                                                        else
                                                                          none
                                                                    else none
                                                                else none
                                                              else
                                                                if (xs (Int32.toNatClampNeg l3)) &&& 31 = (29 : Int32) then
                                                                  (F_X9_trouble z).bind fun (r202, z203) =>
                                                                    (F_X10_trouble z203).bind fun (r204, z205) =>
                                                                      if r202 = r204 then
                                                                        T_L_law_995 xL xs z205 l3
                                                                      else
                                                                        none
                                                                else
                                                                  T_L_law_995 xL xs z l3
    else none
set_option maxRecDepth 100000 in
set_option maxHeartbeats 4000000 in
theorem b_L_law_18 {xL : Nat} {xs : Nat → Int32} {s s2 : Int32 × q_Z} {t : Nat} {r : Option Value} {h2 : q_H} (h : B_L_law_18 xL xs s = some (s2, t)) (k0 : t = 0 → q_Ex (some (xL, xs)) 163 18 [(0, .ref 0), (1, .ref 1), (2, .ref 128), (3, .int s2.1)] [] (q_K0, s2.2.1, s2.2.2, q_R0) r h2) (k1 : t = 1 → q_Ex (some (xL, xs)) 163 1001 [(0, .ref 0), (1, .ref 1), (2, .ref 128), (3, .int s2.1)] [] (q_K0, s2.2.1, s2.2.2, q_R0) r h2) : q_Ex (some (xL, xs)) 163 18 [(0, .ref 0), (1, .ref 1), (2, .ref 128), (3, .int s.1)] [] (q_K0, s.2.1, s.2.2, q_R0) r h2 := by
  unfold B_L_law_18 at h
  obtain ⟨l3, z⟩ := s
  dsimp only at h
  show q_Ex (some (xL, xs)) 163 18 [(0, .ref 0), (1, .ref 1), (2, .ref 128), (3, .int l3)] [] (q_K0, z.1, z.2, q_R0) r h2
  refine q_blk2 (pc2 := 20) (ls2 := [(0, .ref 0), (1, .ref 1), (2, .ref 128), (3, .int l3)]) (st2 := [.ref 0, .int l3]) (h2 := (q_K0, z.1, z.2, q_R0)) [(.iload_n 3, 0, 0, 0, 0, 0), (.aload_n 0, 0, 0, 0, 0, 0)] (by decide +kernel) rfl rfl ⟨trivial, trivial, trivial⟩ ?_
  refine q_slen rfl (by decide +kernel) ?_
  refine q_blk2 (pc2 := 24) (ls2 := [(0, .ref 0), (1, .ref 1), (2, .ref 128), (3, .int l3)]) (st2 := [.int ((Int32.ofNat xL) - 7), .int l3]) (h2 := (q_K0, z.1, z.2, q_R0)) [(.bipush 7, 0, 0, 0, 7, 0), (.isub, 0, 0, 0, 0, 0)] (by decide +kernel) rfl rfl ⟨trivial, trivial, trivial⟩ ?_
  refine q_ic_gt (off := 977) (tgt := 1001) (by decide +kernel) (by decide) (fun c24_1 => ?_) (fun c24_1 => ?_)
  · rw [if_pos c24_1] at h
    cases h
    refine q_pick [0, 1, 2, 3] rfl ?_
    exact k1 rfl
  · rw [if_neg c24_1] at h
    refine q_blk2 (pc2 := 29) (ls2 := [(0, .ref 0), (1, .ref 1), (2, .ref 128), (3, .int l3)]) (st2 := [.int l3, .ref 0]) (h2 := (q_K0, z.1, z.2, q_R0)) [(.aload_n 0, 0, 0, 0, 0, 0), (.iload_n 3, 0, 0, 0, 0, 0)] (by decide +kernel) rfl rfl ⟨trivial, trivial, trivial⟩ ?_
    have b1 : 0 ≤ Int32.toInt l3 ∧ Int32.toInt l3 < xL := by
      by_cases q : 0 ≤ Int32.toInt l3 ∧ Int32.toInt l3 < xL
      · exact q
      · rw [if_neg q] at h; cases h
    rw [if_pos b1] at h
    refine q_sld rfl (vp_in_iff.mpr b1) (by decide +kernel) ?_
    refine q_blk2 (pc2 := 33) (ls2 := [(0, .ref 0), (1, .ref 1), (2, .ref 128), (3, .int l3)]) (st2 := [.int ((xs (Int32.toNatClampNeg l3)) &&& 31)]) (h2 := (q_K0, z.1, z.2, q_R0)) [(.bipush 31, 0, 0, 0, 31, 0), (.iand, 0, 0, 0, 0, 0)] (by decide +kernel) rfl rfl ⟨trivial, trivial, trivial⟩ ?_
    by_cases cw206 : (xs (Int32.toNatClampNeg l3)) &&& 31 = (0 : Int32)
    · rw [if_pos cw206] at h
      refine q_tabI (dflt := 962) (lo := 0) (hi := 29) (offs := #[135, 158, 191, 224, 247, 270, 293, 317, 340, 363, 438, 451, 484, 497, 530, 553, 576, 599, 622, 635, 659, 682, 715, 775, 808, 841, 864, 913, 926, 949]) (len := 135) (off := 135) (tgt := 168) (by decide +kernel) (by rw [cw206]; decide) (by rw [cw206]; decide) (by rw [cw206]; rfl) (by decide) ?_
      refine q_blk2 (pc2 := 173) (ls2 := [(0, .ref 0), (1, .ref 1), (2, .ref 128), (3, .int l3)]) (st2 := [.int (l3 + 1), .ref 0, .ref 1]) (h2 := (q_K0, z.1, z.2, q_R0)) [(.aload_n 1, 0, 0, 0, 0, 0), (.aload_n 0, 0, 0, 0, 0, 0), (.iload_n 3, 0, 0, 0, 0, 0), (.iconst 1, 0, 0, 0, 1, 0), (.iadd, 0, 0, 0, 0, 0)] (by decide +kernel) rfl rfl ⟨trivial, trivial, trivial, trivial, trivial, trivial⟩ ?_
      have b2 : 0 ≤ Int32.toInt (l3 + 1) ∧ Int32.toInt (l3 + 1) < xL := by
        by_cases q : 0 ≤ Int32.toInt (l3 + 1) ∧ Int32.toInt (l3 + 1) < xL
        · exact q
        · rw [if_neg q] at h; cases h
      rw [if_pos b2] at h
      refine q_sld rfl (vp_in_iff.mpr b2) (by decide +kernel) ?_
      obtain ⟨⟨r3, z4⟩, hc207, h⟩ := Option.bind_eq_some_iff.mp h
      dsimp only at h
      refine q_cV1 (idx := 13) (v := .int r3) (h1 := (q_K0, z4.1, z4.2, q_R0)) [.int (xs (Int32.toNatClampNeg (l3 + 1))), .ref 1] 59 1 8 [.int (xs (Int32.toNatClampNeg (l3 + 1)))] [] rfl (by decide +kernel) (by decide +kernel) rfl (Nat.le_of_ble_eq_true rfl) rfl (by decide) (by decide +kernel) (by decide +kernel) (s_X9_root hc207) ?_
      refine q_blk2 (pc2 := 182) (ls2 := [(0, .ref 0), (1, .ref 1), (2, .ref 128), (3, .int l3)]) (st2 := [.int (l3 + 1), .ref 0, .ref 128, .int r3]) (h2 := (q_K0, z4.1, z4.2, q_R0)) [(.aload_n 2, 0, 0, 0, 0, 0), (.aload_n 0, 0, 0, 0, 0, 0), (.iload_n 3, 0, 0, 0, 0, 0), (.iconst 1, 0, 0, 0, 1, 0), (.iadd, 0, 0, 0, 0, 0)] (by decide +kernel) rfl rfl ⟨trivial, trivial, trivial, trivial, trivial, trivial⟩ ?_
      have b5 : 0 ≤ Int32.toInt (l3 + 1) ∧ Int32.toInt (l3 + 1) < xL := by
        by_cases q : 0 ≤ Int32.toInt (l3 + 1) ∧ Int32.toInt (l3 + 1) < xL
        · exact q
        · rw [if_neg q] at h; cases h
      rw [if_pos b5] at h
      refine q_sld rfl (vp_in_iff.mpr b5) (by decide +kernel) ?_
      obtain ⟨⟨r6, z7⟩, hc208, h⟩ := Option.bind_eq_some_iff.mp h
      dsimp only at h
      refine q_cV1 (idx := 17) (v := .int r6) (h1 := (q_K0, z7.1, z7.2, q_R0)) [.int (xs (Int32.toNatClampNeg (l3 + 1))), .ref 128, .int r3] 113 128 9 [.int (xs (Int32.toNatClampNeg (l3 + 1)))] [.int r3] rfl (by decide +kernel) (by decide +kernel) rfl (Nat.le_of_ble_eq_true rfl) rfl (by decide) (by decide +kernel) (by decide +kernel) (s_X10_root hc208) ?_
      refine q_ic_eq (off := 809) (tgt := 995) (by decide +kernel) (by decide) (fun c186_2 => ?_) (fun c186_2 => ?_)
      · rw [if_pos c186_2] at h
        refine q_pick [0, 1, 2, 3] rfl ?_
        exact t_L_law_995 h k0 k1
      · rw [if_neg c186_2] at h
        cases h
    rw [if_neg cw206] at h
    by_cases cw209 : (xs (Int32.toNatClampNeg l3)) &&& 31 = (1 : Int32)
    · rw [if_pos cw209] at h
      refine q_tabI (dflt := 962) (lo := 0) (hi := 29) (offs := #[135, 158, 191, 224, 247, 270, 293, 317, 340, 363, 438, 451, 484, 497, 530, 553, 576, 599, 622, 635, 659, 682, 715, 775, 808, 841, 864, 913, 926, 949]) (len := 135) (off := 158) (tgt := 191) (by decide +kernel) (by rw [cw209]; decide) (by rw [cw209]; decide) (by rw [cw209]; rfl) (by decide) ?_
      refine q_blk2 (pc2 := 196) (ls2 := [(0, .ref 0), (1, .ref 1), (2, .ref 128), (3, .int l3)]) (st2 := [.int (l3 + 1), .ref 0, .ref 1]) (h2 := (q_K0, z.1, z.2, q_R0)) [(.aload_n 1, 0, 0, 0, 0, 0), (.aload_n 0, 0, 0, 0, 0, 0), (.iload_n 3, 0, 0, 0, 0, 0), (.iconst 1, 0, 0, 0, 1, 0), (.iadd, 0, 0, 0, 0, 0)] (by decide +kernel) rfl rfl ⟨trivial, trivial, trivial, trivial, trivial, trivial⟩ ?_
      have b8 : 0 ≤ Int32.toInt (l3 + 1) ∧ Int32.toInt (l3 + 1) < xL := by
        by_cases q : 0 ≤ Int32.toInt (l3 + 1) ∧ Int32.toInt (l3 + 1) < xL
        · exact q
        · rw [if_neg q] at h; cases h
      rw [if_pos b8] at h
      refine q_sld rfl (vp_in_iff.mpr b8) (by decide +kernel) ?_
      refine q_blk2 (pc2 := 201) (ls2 := [(0, .ref 0), (1, .ref 1), (2, .ref 128), (3, .int l3)]) (st2 := [.int (l3 + 2), .ref 0, .int (xs (Int32.toNatClampNeg (l3 + 1))), .ref 1]) (h2 := (q_K0, z.1, z.2, q_R0)) [(.aload_n 0, 0, 0, 0, 0, 0), (.iload_n 3, 0, 0, 0, 0, 0), (.iconst 2, 0, 0, 0, 2, 0), (.iadd, 0, 0, 0, 0, 0)] (by decide +kernel) rfl rfl ⟨trivial, trivial, trivial, trivial, trivial⟩ ?_
      have b9 : 0 ≤ Int32.toInt (l3 + 2) ∧ Int32.toInt (l3 + 2) < xL := by
        by_cases q : 0 ≤ Int32.toInt (l3 + 2) ∧ Int32.toInt (l3 + 2) < xL
        · exact q
        · rw [if_neg q] at h; cases h
      rw [if_pos b9] at h
      refine q_sld rfl (vp_in_iff.mpr b9) (by decide +kernel) ?_
      obtain ⟨⟨r10, z11⟩, hc210, h⟩ := Option.bind_eq_some_iff.mp h
      dsimp only at h
      refine q_cV1 (idx := 18) (v := .int r10) (h1 := (q_K0, z11.1, z11.2, q_R0)) [.int (xs (Int32.toNatClampNeg (l3 + 2))), .int (xs (Int32.toNatClampNeg (l3 + 1))), .ref 1] 60 1 8 [.int (xs (Int32.toNatClampNeg (l3 + 1))), .int (xs (Int32.toNatClampNeg (l3 + 2)))] [] rfl (by decide +kernel) (by decide +kernel) rfl (Nat.le_of_ble_eq_true rfl) rfl (by decide) (by decide +kernel) (by decide +kernel) (s_X9_form hc210) ?_
      refine q_blk2 (pc2 := 210) (ls2 := [(0, .ref 0), (1, .ref 1), (2, .ref 128), (3, .int l3)]) (st2 := [.int (l3 + 1), .ref 0, .ref 128, .int r10]) (h2 := (q_K0, z11.1, z11.2, q_R0)) [(.aload_n 2, 0, 0, 0, 0, 0), (.aload_n 0, 0, 0, 0, 0, 0), (.iload_n 3, 0, 0, 0, 0, 0), (.iconst 1, 0, 0, 0, 1, 0), (.iadd, 0, 0, 0, 0, 0)] (by decide +kernel) rfl rfl ⟨trivial, trivial, trivial, trivial, trivial, trivial⟩ ?_
      have b12 : 0 ≤ Int32.toInt (l3 + 1) ∧ Int32.toInt (l3 + 1) < xL := by
        by_cases q : 0 ≤ Int32.toInt (l3 + 1) ∧ Int32.toInt (l3 + 1) < xL
        · exact q
        · rw [if_neg q] at h; cases h
      rw [if_pos b12] at h
      refine q_sld rfl (vp_in_iff.mpr b12) (by decide +kernel) ?_
      refine q_blk2 (pc2 := 215) (ls2 := [(0, .ref 0), (1, .ref 1), (2, .ref 128), (3, .int l3)]) (st2 := [.int (l3 + 2), .ref 0, .int (xs (Int32.toNatClampNeg (l3 + 1))), .ref 128, .int r10]) (h2 := (q_K0, z11.1, z11.2, q_R0)) [(.aload_n 0, 0, 0, 0, 0, 0), (.iload_n 3, 0, 0, 0, 0, 0), (.iconst 2, 0, 0, 0, 2, 0), (.iadd, 0, 0, 0, 0, 0)] (by decide +kernel) rfl rfl ⟨trivial, trivial, trivial, trivial, trivial⟩ ?_
      have b13 : 0 ≤ Int32.toInt (l3 + 2) ∧ Int32.toInt (l3 + 2) < xL := by
        by_cases q : 0 ≤ Int32.toInt (l3 + 2) ∧ Int32.toInt (l3 + 2) < xL
        · exact q
        · rw [if_neg q] at h; cases h
      rw [if_pos b13] at h
      refine q_sld rfl (vp_in_iff.mpr b13) (by decide +kernel) ?_
      obtain ⟨⟨r14, z15⟩, hc211, h⟩ := Option.bind_eq_some_iff.mp h
      dsimp only at h
      refine q_cV1 (idx := 22) (v := .int r14) (h1 := (q_K0, z15.1, z15.2, q_R0)) [.int (xs (Int32.toNatClampNeg (l3 + 2))), .int (xs (Int32.toNatClampNeg (l3 + 1))), .ref 128, .int r10] 117 128 9 [.int (xs (Int32.toNatClampNeg (l3 + 1))), .int (xs (Int32.toNatClampNeg (l3 + 2)))] [.int r10] rfl (by decide +kernel) (by decide +kernel) rfl (Nat.le_of_ble_eq_true rfl) rfl (by decide) (by decide +kernel) (by decide +kernel) (s_X10_form hc211) ?_
      refine q_ic_eq (off := 776) (tgt := 995) (by decide +kernel) (by decide) (fun c219_3 => ?_) (fun c219_3 => ?_)
      · rw [if_pos c219_3] at h
        refine q_pick [0, 1, 2, 3] rfl ?_
        exact t_L_law_995 h k0 k1
      · rw [if_neg c219_3] at h
        cases h
    rw [if_neg cw209] at h
    by_cases cw212 : (xs (Int32.toNatClampNeg l3)) &&& 31 = (2 : Int32)
    · rw [if_pos cw212] at h
      refine q_tabI (dflt := 962) (lo := 0) (hi := 29) (offs := #[135, 158, 191, 224, 247, 270, 293, 317, 340, 363, 438, 451, 484, 497, 530, 553, 576, 599, 622, 635, 659, 682, 715, 775, 808, 841, 864, 913, 926, 949]) (len := 135) (off := 191) (tgt := 224) (by decide +kernel) (by rw [cw212]; decide) (by rw [cw212]; decide) (by rw [cw212]; rfl) (by decide) ?_
      refine q_blk2 (pc2 := 229) (ls2 := [(0, .ref 0), (1, .ref 1), (2, .ref 128), (3, .int l3)]) (st2 := [.int (l3 + 1), .ref 0, .ref 1]) (h2 := (q_K0, z.1, z.2, q_R0)) [(.aload_n 1, 0, 0, 0, 0, 0), (.aload_n 0, 0, 0, 0, 0, 0), (.iload_n 3, 0, 0, 0, 0, 0), (.iconst 1, 0, 0, 0, 1, 0), (.iadd, 0, 0, 0, 0, 0)] (by decide +kernel) rfl rfl ⟨trivial, trivial, trivial, trivial, trivial, trivial⟩ ?_
      have b16 : 0 ≤ Int32.toInt (l3 + 1) ∧ Int32.toInt (l3 + 1) < xL := by
        by_cases q : 0 ≤ Int32.toInt (l3 + 1) ∧ Int32.toInt (l3 + 1) < xL
        · exact q
        · rw [if_neg q] at h; cases h
      rw [if_pos b16] at h
      refine q_sld rfl (vp_in_iff.mpr b16) (by decide +kernel) ?_
      refine q_blk2 (pc2 := 234) (ls2 := [(0, .ref 0), (1, .ref 1), (2, .ref 128), (3, .int l3)]) (st2 := [.int (l3 + 2), .ref 0, .int (xs (Int32.toNatClampNeg (l3 + 1))), .ref 1]) (h2 := (q_K0, z.1, z.2, q_R0)) [(.aload_n 0, 0, 0, 0, 0, 0), (.iload_n 3, 0, 0, 0, 0, 0), (.iconst 2, 0, 0, 0, 2, 0), (.iadd, 0, 0, 0, 0, 0)] (by decide +kernel) rfl rfl ⟨trivial, trivial, trivial, trivial, trivial⟩ ?_
      have b17 : 0 ≤ Int32.toInt (l3 + 2) ∧ Int32.toInt (l3 + 2) < xL := by
        by_cases q : 0 ≤ Int32.toInt (l3 + 2) ∧ Int32.toInt (l3 + 2) < xL
        · exact q
        · rw [if_neg q] at h; cases h
      rw [if_pos b17] at h
      refine q_sld rfl (vp_in_iff.mpr b17) (by decide +kernel) ?_
      obtain ⟨⟨r18, z19⟩, hc213, h⟩ := Option.bind_eq_some_iff.mp h
      dsimp only at h
      refine q_cV1 (idx := 23) (v := .int r18) (h1 := (q_K0, z19.1, z19.2, q_R0)) [.int (xs (Int32.toNatClampNeg (l3 + 2))), .int (xs (Int32.toNatClampNeg (l3 + 1))), .ref 1] 61 1 8 [.int (xs (Int32.toNatClampNeg (l3 + 1))), .int (xs (Int32.toNatClampNeg (l3 + 2)))] [] rfl (by decide +kernel) (by decide +kernel) rfl (Nat.le_of_ble_eq_true rfl) rfl (by decide) (by decide +kernel) (by decide +kernel) (s_X9_number hc213) ?_
      refine q_blk2 (pc2 := 243) (ls2 := [(0, .ref 0), (1, .ref 1), (2, .ref 128), (3, .int l3)]) (st2 := [.int (l3 + 1), .ref 0, .ref 128, .int r18]) (h2 := (q_K0, z19.1, z19.2, q_R0)) [(.aload_n 2, 0, 0, 0, 0, 0), (.aload_n 0, 0, 0, 0, 0, 0), (.iload_n 3, 0, 0, 0, 0, 0), (.iconst 1, 0, 0, 0, 1, 0), (.iadd, 0, 0, 0, 0, 0)] (by decide +kernel) rfl rfl ⟨trivial, trivial, trivial, trivial, trivial, trivial⟩ ?_
      have b20 : 0 ≤ Int32.toInt (l3 + 1) ∧ Int32.toInt (l3 + 1) < xL := by
        by_cases q : 0 ≤ Int32.toInt (l3 + 1) ∧ Int32.toInt (l3 + 1) < xL
        · exact q
        · rw [if_neg q] at h; cases h
      rw [if_pos b20] at h
      refine q_sld rfl (vp_in_iff.mpr b20) (by decide +kernel) ?_
      refine q_blk2 (pc2 := 248) (ls2 := [(0, .ref 0), (1, .ref 1), (2, .ref 128), (3, .int l3)]) (st2 := [.int (l3 + 2), .ref 0, .int (xs (Int32.toNatClampNeg (l3 + 1))), .ref 128, .int r18]) (h2 := (q_K0, z19.1, z19.2, q_R0)) [(.aload_n 0, 0, 0, 0, 0, 0), (.iload_n 3, 0, 0, 0, 0, 0), (.iconst 2, 0, 0, 0, 2, 0), (.iadd, 0, 0, 0, 0, 0)] (by decide +kernel) rfl rfl ⟨trivial, trivial, trivial, trivial, trivial⟩ ?_
      have b21 : 0 ≤ Int32.toInt (l3 + 2) ∧ Int32.toInt (l3 + 2) < xL := by
        by_cases q : 0 ≤ Int32.toInt (l3 + 2) ∧ Int32.toInt (l3 + 2) < xL
        · exact q
        · rw [if_neg q] at h; cases h
      rw [if_pos b21] at h
      refine q_sld rfl (vp_in_iff.mpr b21) (by decide +kernel) ?_
      obtain ⟨⟨r22, z23⟩, hc214, h⟩ := Option.bind_eq_some_iff.mp h
      dsimp only at h
      refine q_cV1 (idx := 26) (v := .int r22) (h1 := (q_K0, z23.1, z23.2, q_R0)) [.int (xs (Int32.toNatClampNeg (l3 + 2))), .int (xs (Int32.toNatClampNeg (l3 + 1))), .ref 128, .int r18] 118 128 9 [.int (xs (Int32.toNatClampNeg (l3 + 1))), .int (xs (Int32.toNatClampNeg (l3 + 2)))] [.int r18] rfl (by decide +kernel) (by decide +kernel) rfl (Nat.le_of_ble_eq_true rfl) rfl (by decide) (by decide +kernel) (by decide +kernel) (s_X10_number hc214) ?_
      refine q_ic_eq (off := 743) (tgt := 995) (by decide +kernel) (by decide) (fun c252_4 => ?_) (fun c252_4 => ?_)
      · rw [if_pos c252_4] at h
        refine q_pick [0, 1, 2, 3] rfl ?_
        exact t_L_law_995 h k0 k1
      · rw [if_neg c252_4] at h
        cases h
    rw [if_neg cw212] at h
    by_cases cw215 : (xs (Int32.toNatClampNeg l3)) &&& 31 = (3 : Int32)
    · rw [if_pos cw215] at h
      refine q_tabI (dflt := 962) (lo := 0) (hi := 29) (offs := #[135, 158, 191, 224, 247, 270, 293, 317, 340, 363, 438, 451, 484, 497, 530, 553, 576, 599, 622, 635, 659, 682, 715, 775, 808, 841, 864, 913, 926, 949]) (len := 135) (off := 224) (tgt := 257) (by decide +kernel) (by rw [cw215]; decide) (by rw [cw215]; decide) (by rw [cw215]; rfl) (by decide) ?_
      refine q_blk2 (pc2 := 262) (ls2 := [(0, .ref 0), (1, .ref 1), (2, .ref 128), (3, .int l3)]) (st2 := [.int (l3 + 1), .ref 0, .ref 1]) (h2 := (q_K0, z.1, z.2, q_R0)) [(.aload_n 1, 0, 0, 0, 0, 0), (.aload_n 0, 0, 0, 0, 0, 0), (.iload_n 3, 0, 0, 0, 0, 0), (.iconst 1, 0, 0, 0, 1, 0), (.iadd, 0, 0, 0, 0, 0)] (by decide +kernel) rfl rfl ⟨trivial, trivial, trivial, trivial, trivial, trivial⟩ ?_
      have b24 : 0 ≤ Int32.toInt (l3 + 1) ∧ Int32.toInt (l3 + 1) < xL := by
        by_cases q : 0 ≤ Int32.toInt (l3 + 1) ∧ Int32.toInt (l3 + 1) < xL
        · exact q
        · rw [if_neg q] at h; cases h
      rw [if_pos b24] at h
      refine q_sld rfl (vp_in_iff.mpr b24) (by decide +kernel) ?_
      obtain ⟨⟨r25, z26⟩, hc216, h⟩ := Option.bind_eq_some_iff.mp h
      dsimp only at h
      refine q_cV1 (idx := 27) (v := .int r25) (h1 := (q_K0, z26.1, z26.2, q_R0)) [.int (xs (Int32.toNatClampNeg (l3 + 1))), .ref 1] 62 1 8 [.int (xs (Int32.toNatClampNeg (l3 + 1)))] [] rfl (by decide +kernel) (by decide +kernel) rfl (Nat.le_of_ble_eq_true rfl) rfl (by decide) (by decide +kernel) (by decide +kernel) (s_X9_least hc216) ?_
      refine q_blk2 (pc2 := 271) (ls2 := [(0, .ref 0), (1, .ref 1), (2, .ref 128), (3, .int l3)]) (st2 := [.int (l3 + 1), .ref 0, .ref 128, .int r25]) (h2 := (q_K0, z26.1, z26.2, q_R0)) [(.aload_n 2, 0, 0, 0, 0, 0), (.aload_n 0, 0, 0, 0, 0, 0), (.iload_n 3, 0, 0, 0, 0, 0), (.iconst 1, 0, 0, 0, 1, 0), (.iadd, 0, 0, 0, 0, 0)] (by decide +kernel) rfl rfl ⟨trivial, trivial, trivial, trivial, trivial, trivial⟩ ?_
      have b27 : 0 ≤ Int32.toInt (l3 + 1) ∧ Int32.toInt (l3 + 1) < xL := by
        by_cases q : 0 ≤ Int32.toInt (l3 + 1) ∧ Int32.toInt (l3 + 1) < xL
        · exact q
        · rw [if_neg q] at h; cases h
      rw [if_pos b27] at h
      refine q_sld rfl (vp_in_iff.mpr b27) (by decide +kernel) ?_
      obtain ⟨⟨r28, z29⟩, hc217, h⟩ := Option.bind_eq_some_iff.mp h
      dsimp only at h
      refine q_cV1 (idx := 31) (v := .int r28) (h1 := (q_K0, z29.1, z29.2, q_R0)) [.int (xs (Int32.toNatClampNeg (l3 + 1))), .ref 128, .int r25] 119 128 9 [.int (xs (Int32.toNatClampNeg (l3 + 1)))] [.int r25] rfl (by decide +kernel) (by decide +kernel) rfl (Nat.le_of_ble_eq_true rfl) rfl (by decide) (by decide +kernel) (by decide +kernel) (s_X10_least hc217) ?_
      refine q_ic_eq (off := 720) (tgt := 995) (by decide +kernel) (by decide) (fun c275_5 => ?_) (fun c275_5 => ?_)
      · rw [if_pos c275_5] at h
        refine q_pick [0, 1, 2, 3] rfl ?_
        exact t_L_law_995 h k0 k1
      · rw [if_neg c275_5] at h
        cases h
    rw [if_neg cw215] at h
    by_cases cw218 : (xs (Int32.toNatClampNeg l3)) &&& 31 = (4 : Int32)
    · rw [if_pos cw218] at h
      refine q_tabI (dflt := 962) (lo := 0) (hi := 29) (offs := #[135, 158, 191, 224, 247, 270, 293, 317, 340, 363, 438, 451, 484, 497, 530, 553, 576, 599, 622, 635, 659, 682, 715, 775, 808, 841, 864, 913, 926, 949]) (len := 135) (off := 247) (tgt := 280) (by decide +kernel) (by rw [cw218]; decide) (by rw [cw218]; decide) (by rw [cw218]; rfl) (by decide) ?_
      refine q_blk2 (pc2 := 285) (ls2 := [(0, .ref 0), (1, .ref 1), (2, .ref 128), (3, .int l3)]) (st2 := [.int (l3 + 1), .ref 0, .ref 1]) (h2 := (q_K0, z.1, z.2, q_R0)) [(.aload_n 1, 0, 0, 0, 0, 0), (.aload_n 0, 0, 0, 0, 0, 0), (.iload_n 3, 0, 0, 0, 0, 0), (.iconst 1, 0, 0, 0, 1, 0), (.iadd, 0, 0, 0, 0, 0)] (by decide +kernel) rfl rfl ⟨trivial, trivial, trivial, trivial, trivial, trivial⟩ ?_
      have b30 : 0 ≤ Int32.toInt (l3 + 1) ∧ Int32.toInt (l3 + 1) < xL := by
        by_cases q : 0 ≤ Int32.toInt (l3 + 1) ∧ Int32.toInt (l3 + 1) < xL
        · exact q
        · rw [if_neg q] at h; cases h
      rw [if_pos b30] at h
      refine q_sld rfl (vp_in_iff.mpr b30) (by decide +kernel) ?_
      obtain ⟨⟨r31, z32⟩, hc219, h⟩ := Option.bind_eq_some_iff.mp h
      dsimp only at h
      refine q_cV1 (idx := 32) (v := .int r31) (h1 := (q_K0, z32.1, z32.2, q_R0)) [.int (xs (Int32.toNatClampNeg (l3 + 1))), .ref 1] 63 1 8 [.int (xs (Int32.toNatClampNeg (l3 + 1)))] [] rfl (by decide +kernel) (by decide +kernel) rfl (Nat.le_of_ble_eq_true rfl) rfl (by decide) (by decide +kernel) (by decide +kernel) (s_X9_step hc219) ?_
      refine q_blk2 (pc2 := 294) (ls2 := [(0, .ref 0), (1, .ref 1), (2, .ref 128), (3, .int l3)]) (st2 := [.int (l3 + 1), .ref 0, .ref 128, .int r31]) (h2 := (q_K0, z32.1, z32.2, q_R0)) [(.aload_n 2, 0, 0, 0, 0, 0), (.aload_n 0, 0, 0, 0, 0, 0), (.iload_n 3, 0, 0, 0, 0, 0), (.iconst 1, 0, 0, 0, 1, 0), (.iadd, 0, 0, 0, 0, 0)] (by decide +kernel) rfl rfl ⟨trivial, trivial, trivial, trivial, trivial, trivial⟩ ?_
      have b33 : 0 ≤ Int32.toInt (l3 + 1) ∧ Int32.toInt (l3 + 1) < xL := by
        by_cases q : 0 ≤ Int32.toInt (l3 + 1) ∧ Int32.toInt (l3 + 1) < xL
        · exact q
        · rw [if_neg q] at h; cases h
      rw [if_pos b33] at h
      refine q_sld rfl (vp_in_iff.mpr b33) (by decide +kernel) ?_
      obtain ⟨⟨r34, z35⟩, hc220, h⟩ := Option.bind_eq_some_iff.mp h
      dsimp only at h
      refine q_cV1 (idx := 35) (v := .int r34) (h1 := (q_K0, z35.1, z35.2, q_R0)) [.int (xs (Int32.toNatClampNeg (l3 + 1))), .ref 128, .int r31] 121 128 9 [.int (xs (Int32.toNatClampNeg (l3 + 1)))] [.int r31] rfl (by decide +kernel) (by decide +kernel) rfl (Nat.le_of_ble_eq_true rfl) rfl (by decide) (by decide +kernel) (by decide +kernel) (s_X10_step hc220) ?_
      refine q_ic_eq (off := 697) (tgt := 995) (by decide +kernel) (by decide) (fun c298_6 => ?_) (fun c298_6 => ?_)
      · rw [if_pos c298_6] at h
        refine q_pick [0, 1, 2, 3] rfl ?_
        exact t_L_law_995 h k0 k1
      · rw [if_neg c298_6] at h
        cases h
    rw [if_neg cw218] at h
    by_cases cw221 : (xs (Int32.toNatClampNeg l3)) &&& 31 = (5 : Int32)
    · rw [if_pos cw221] at h
      refine q_tabI (dflt := 962) (lo := 0) (hi := 29) (offs := #[135, 158, 191, 224, 247, 270, 293, 317, 340, 363, 438, 451, 484, 497, 530, 553, 576, 599, 622, 635, 659, 682, 715, 775, 808, 841, 864, 913, 926, 949]) (len := 135) (off := 270) (tgt := 303) (by decide +kernel) (by rw [cw221]; decide) (by rw [cw221]; decide) (by rw [cw221]; rfl) (by decide) ?_
      refine q_blk2 (pc2 := 308) (ls2 := [(0, .ref 0), (1, .ref 1), (2, .ref 128), (3, .int l3)]) (st2 := [.int (l3 + 1), .ref 0, .ref 1]) (h2 := (q_K0, z.1, z.2, q_R0)) [(.aload_n 1, 0, 0, 0, 0, 0), (.aload_n 0, 0, 0, 0, 0, 0), (.iload_n 3, 0, 0, 0, 0, 0), (.iconst 1, 0, 0, 0, 1, 0), (.iadd, 0, 0, 0, 0, 0)] (by decide +kernel) rfl rfl ⟨trivial, trivial, trivial, trivial, trivial, trivial⟩ ?_
      have b36 : 0 ≤ Int32.toInt (l3 + 1) ∧ Int32.toInt (l3 + 1) < xL := by
        by_cases q : 0 ≤ Int32.toInt (l3 + 1) ∧ Int32.toInt (l3 + 1) < xL
        · exact q
        · rw [if_neg q] at h; cases h
      rw [if_pos b36] at h
      refine q_sld rfl (vp_in_iff.mpr b36) (by decide +kernel) ?_
      obtain ⟨⟨r37, z38⟩, hc222, h⟩ := Option.bind_eq_some_iff.mp h
      dsimp only at h
      refine q_cV1 (idx := 36) (v := .int r37) (h1 := (q_K0, z38.1, z38.2, q_R0)) [.int (xs (Int32.toNatClampNeg (l3 + 1))), .ref 1] 64 1 8 [.int (xs (Int32.toNatClampNeg (l3 + 1)))] [] rfl (by decide +kernel) (by decide +kernel) rfl (Nat.le_of_ble_eq_true rfl) rfl (by decide) (by decide +kernel) (by decide +kernel) (s_X9_reduce hc222) ?_
      refine q_blk2 (pc2 := 317) (ls2 := [(0, .ref 0), (1, .ref 1), (2, .ref 128), (3, .int l3)]) (st2 := [.int (l3 + 1), .ref 0, .ref 128, .int r37]) (h2 := (q_K0, z38.1, z38.2, q_R0)) [(.aload_n 2, 0, 0, 0, 0, 0), (.aload_n 0, 0, 0, 0, 0, 0), (.iload_n 3, 0, 0, 0, 0, 0), (.iconst 1, 0, 0, 0, 1, 0), (.iadd, 0, 0, 0, 0, 0)] (by decide +kernel) rfl rfl ⟨trivial, trivial, trivial, trivial, trivial, trivial⟩ ?_
      have b39 : 0 ≤ Int32.toInt (l3 + 1) ∧ Int32.toInt (l3 + 1) < xL := by
        by_cases q : 0 ≤ Int32.toInt (l3 + 1) ∧ Int32.toInt (l3 + 1) < xL
        · exact q
        · rw [if_neg q] at h; cases h
      rw [if_pos b39] at h
      refine q_sld rfl (vp_in_iff.mpr b39) (by decide +kernel) ?_
      obtain ⟨⟨r40, z41⟩, hc223, h⟩ := Option.bind_eq_some_iff.mp h
      dsimp only at h
      refine q_cV1 (idx := 39) (v := .int r40) (h1 := (q_K0, z41.1, z41.2, q_R0)) [.int (xs (Int32.toNatClampNeg (l3 + 1))), .ref 128, .int r37] 122 128 9 [.int (xs (Int32.toNatClampNeg (l3 + 1)))] [.int r37] rfl (by decide +kernel) (by decide +kernel) rfl (Nat.le_of_ble_eq_true rfl) rfl (by decide) (by decide +kernel) (by decide +kernel) (s_X10_reduce hc223) ?_
      refine q_ic_eq (off := 674) (tgt := 995) (by decide +kernel) (by decide) (fun c321_7 => ?_) (fun c321_7 => ?_)
      · rw [if_pos c321_7] at h
        refine q_pick [0, 1, 2, 3] rfl ?_
        exact t_L_law_995 h k0 k1
      · rw [if_neg c321_7] at h
        cases h
    rw [if_neg cw221] at h
    by_cases cw224 : (xs (Int32.toNatClampNeg l3)) &&& 31 = (6 : Int32)
    · rw [if_pos cw224] at h
      refine q_tabI (dflt := 962) (lo := 0) (hi := 29) (offs := #[135, 158, 191, 224, 247, 270, 293, 317, 340, 363, 438, 451, 484, 497, 530, 553, 576, 599, 622, 635, 659, 682, 715, 775, 808, 841, 864, 913, 926, 949]) (len := 135) (off := 293) (tgt := 326) (by decide +kernel) (by rw [cw224]; decide) (by rw [cw224]; decide) (by rw [cw224]; rfl) (by decide) ?_
      refine q_blk2 (pc2 := 331) (ls2 := [(0, .ref 0), (1, .ref 1), (2, .ref 128), (3, .int l3)]) (st2 := [.int (l3 + 1), .ref 0, .ref 1]) (h2 := (q_K0, z.1, z.2, q_R0)) [(.aload_n 1, 0, 0, 0, 0, 0), (.aload_n 0, 0, 0, 0, 0, 0), (.iload_n 3, 0, 0, 0, 0, 0), (.iconst 1, 0, 0, 0, 1, 0), (.iadd, 0, 0, 0, 0, 0)] (by decide +kernel) rfl rfl ⟨trivial, trivial, trivial, trivial, trivial, trivial⟩ ?_
      have b42 : 0 ≤ Int32.toInt (l3 + 1) ∧ Int32.toInt (l3 + 1) < xL := by
        by_cases q : 0 ≤ Int32.toInt (l3 + 1) ∧ Int32.toInt (l3 + 1) < xL
        · exact q
        · rw [if_neg q] at h; cases h
      rw [if_pos b42] at h
      refine q_sld rfl (vp_in_iff.mpr b42) (by decide +kernel) ?_
      obtain ⟨⟨r43, z44⟩, hc225, h⟩ := Option.bind_eq_some_iff.mp h
      dsimp only at h
      refine q_cV1 (idx := 40) (v := .long r43) (h1 := (q_K0, z44.1, z44.2, q_R0)) [.int (xs (Int32.toNatClampNeg (l3 + 1))), .ref 1] 65 1 8 [.int (xs (Int32.toNatClampNeg (l3 + 1)))] [] rfl (by decide +kernel) (by decide +kernel) rfl (Nat.le_of_ble_eq_true rfl) rfl (by decide) (by decide +kernel) (by decide +kernel) (s_X9_way hc225) ?_
      refine q_blk2 (pc2 := 340) (ls2 := [(0, .ref 0), (1, .ref 1), (2, .ref 128), (3, .int l3)]) (st2 := [.int (l3 + 1), .ref 0, .ref 128, .long r43]) (h2 := (q_K0, z44.1, z44.2, q_R0)) [(.aload_n 2, 0, 0, 0, 0, 0), (.aload_n 0, 0, 0, 0, 0, 0), (.iload_n 3, 0, 0, 0, 0, 0), (.iconst 1, 0, 0, 0, 1, 0), (.iadd, 0, 0, 0, 0, 0)] (by decide +kernel) rfl rfl ⟨trivial, trivial, trivial, trivial, trivial, trivial⟩ ?_
      have b45 : 0 ≤ Int32.toInt (l3 + 1) ∧ Int32.toInt (l3 + 1) < xL := by
        by_cases q : 0 ≤ Int32.toInt (l3 + 1) ∧ Int32.toInt (l3 + 1) < xL
        · exact q
        · rw [if_neg q] at h; cases h
      rw [if_pos b45] at h
      refine q_sld rfl (vp_in_iff.mpr b45) (by decide +kernel) ?_
      obtain ⟨⟨r46, z47⟩, hc226, h⟩ := Option.bind_eq_some_iff.mp h
      dsimp only at h
      refine q_cV1 (idx := 44) (v := .long r46) (h1 := (q_K0, z47.1, z47.2, q_R0)) [.int (xs (Int32.toNatClampNeg (l3 + 1))), .ref 128, .long r43] 123 128 9 [.int (xs (Int32.toNatClampNeg (l3 + 1)))] [.long r43] rfl (by decide +kernel) (by decide +kernel) rfl (Nat.le_of_ble_eq_true rfl) rfl (by decide) (by decide +kernel) (by decide +kernel) (s_X10_way hc226) ?_
      refine q_lc_eq (off := 650) (tgt := 995) (by decide +kernel) (by decide +kernel) (by decide) (fun c344_8 => ?_) (fun c344_8 => ?_)
      · rw [if_pos c344_8] at h
        refine q_pick [0, 1, 2, 3] rfl ?_
        exact t_L_law_995 h k0 k1
      · rw [if_neg c344_8] at h
        cases h
    rw [if_neg cw224] at h
    by_cases cw227 : (xs (Int32.toNatClampNeg l3)) &&& 31 = (7 : Int32)
    · rw [if_pos cw227] at h
      refine q_tabI (dflt := 962) (lo := 0) (hi := 29) (offs := #[135, 158, 191, 224, 247, 270, 293, 317, 340, 363, 438, 451, 484, 497, 530, 553, 576, 599, 622, 635, 659, 682, 715, 775, 808, 841, 864, 913, 926, 949]) (len := 135) (off := 317) (tgt := 350) (by decide +kernel) (by rw [cw227]; decide) (by rw [cw227]; decide) (by rw [cw227]; rfl) (by decide) ?_
      refine q_blk2 (pc2 := 355) (ls2 := [(0, .ref 0), (1, .ref 1), (2, .ref 128), (3, .int l3)]) (st2 := [.int (l3 + 1), .ref 0, .ref 1]) (h2 := (q_K0, z.1, z.2, q_R0)) [(.aload_n 1, 0, 0, 0, 0, 0), (.aload_n 0, 0, 0, 0, 0, 0), (.iload_n 3, 0, 0, 0, 0, 0), (.iconst 1, 0, 0, 0, 1, 0), (.iadd, 0, 0, 0, 0, 0)] (by decide +kernel) rfl rfl ⟨trivial, trivial, trivial, trivial, trivial, trivial⟩ ?_
      have b48 : 0 ≤ Int32.toInt (l3 + 1) ∧ Int32.toInt (l3 + 1) < xL := by
        by_cases q : 0 ≤ Int32.toInt (l3 + 1) ∧ Int32.toInt (l3 + 1) < xL
        · exact q
        · rw [if_neg q] at h; cases h
      rw [if_pos b48] at h
      refine q_sld rfl (vp_in_iff.mpr b48) (by decide +kernel) ?_
      obtain ⟨⟨r49, z50⟩, hc228, h⟩ := Option.bind_eq_some_iff.mp h
      dsimp only at h
      refine q_cV1 (idx := 45) (v := .int r49) (h1 := (q_K0, z50.1, z50.2, q_R0)) [.int (xs (Int32.toNatClampNeg (l3 + 1))), .ref 1] 66 1 8 [.int (xs (Int32.toNatClampNeg (l3 + 1)))] [] rfl (by decide +kernel) (by decide +kernel) rfl (Nat.le_of_ble_eq_true rfl) rfl (by decide) (by decide +kernel) (by decide +kernel) (s_X9_ring hc228) ?_
      refine q_blk2 (pc2 := 364) (ls2 := [(0, .ref 0), (1, .ref 1), (2, .ref 128), (3, .int l3)]) (st2 := [.int (l3 + 1), .ref 0, .ref 128, .int r49]) (h2 := (q_K0, z50.1, z50.2, q_R0)) [(.aload_n 2, 0, 0, 0, 0, 0), (.aload_n 0, 0, 0, 0, 0, 0), (.iload_n 3, 0, 0, 0, 0, 0), (.iconst 1, 0, 0, 0, 1, 0), (.iadd, 0, 0, 0, 0, 0)] (by decide +kernel) rfl rfl ⟨trivial, trivial, trivial, trivial, trivial, trivial⟩ ?_
      have b51 : 0 ≤ Int32.toInt (l3 + 1) ∧ Int32.toInt (l3 + 1) < xL := by
        by_cases q : 0 ≤ Int32.toInt (l3 + 1) ∧ Int32.toInt (l3 + 1) < xL
        · exact q
        · rw [if_neg q] at h; cases h
      rw [if_pos b51] at h
      refine q_sld rfl (vp_in_iff.mpr b51) (by decide +kernel) ?_
      obtain ⟨⟨r52, z53⟩, hc229, h⟩ := Option.bind_eq_some_iff.mp h
      dsimp only at h
      refine q_cV1 (idx := 48) (v := .int r52) (h1 := (q_K0, z53.1, z53.2, q_R0)) [.int (xs (Int32.toNatClampNeg (l3 + 1))), .ref 128, .int r49] 124 128 9 [.int (xs (Int32.toNatClampNeg (l3 + 1)))] [.int r49] rfl (by decide +kernel) (by decide +kernel) rfl (Nat.le_of_ble_eq_true rfl) rfl (by decide) (by decide +kernel) (by decide +kernel) (s_X10_ring hc229) ?_
      refine q_ic_eq (off := 627) (tgt := 995) (by decide +kernel) (by decide) (fun c368_9 => ?_) (fun c368_9 => ?_)
      · rw [if_pos c368_9] at h
        refine q_pick [0, 1, 2, 3] rfl ?_
        exact t_L_law_995 h k0 k1
      · rw [if_neg c368_9] at h
        cases h
    rw [if_neg cw227] at h
    by_cases cw230 : (xs (Int32.toNatClampNeg l3)) &&& 31 = (8 : Int32)
    · rw [if_pos cw230] at h
      refine q_tabI (dflt := 962) (lo := 0) (hi := 29) (offs := #[135, 158, 191, 224, 247, 270, 293, 317, 340, 363, 438, 451, 484, 497, 530, 553, 576, 599, 622, 635, 659, 682, 715, 775, 808, 841, 864, 913, 926, 949]) (len := 135) (off := 340) (tgt := 373) (by decide +kernel) (by rw [cw230]; decide) (by rw [cw230]; decide) (by rw [cw230]; rfl) (by decide) ?_
      refine q_blk2 (pc2 := 378) (ls2 := [(0, .ref 0), (1, .ref 1), (2, .ref 128), (3, .int l3)]) (st2 := [.int (l3 + 1), .ref 0, .ref 1]) (h2 := (q_K0, z.1, z.2, q_R0)) [(.aload_n 1, 0, 0, 0, 0, 0), (.aload_n 0, 0, 0, 0, 0, 0), (.iload_n 3, 0, 0, 0, 0, 0), (.iconst 1, 0, 0, 0, 1, 0), (.iadd, 0, 0, 0, 0, 0)] (by decide +kernel) rfl rfl ⟨trivial, trivial, trivial, trivial, trivial, trivial⟩ ?_
      have b54 : 0 ≤ Int32.toInt (l3 + 1) ∧ Int32.toInt (l3 + 1) < xL := by
        by_cases q : 0 ≤ Int32.toInt (l3 + 1) ∧ Int32.toInt (l3 + 1) < xL
        · exact q
        · rw [if_neg q] at h; cases h
      rw [if_pos b54] at h
      refine q_sld rfl (vp_in_iff.mpr b54) (by decide +kernel) ?_
      obtain ⟨⟨r55, z56⟩, hc231, h⟩ := Option.bind_eq_some_iff.mp h
      dsimp only at h
      refine q_cV1 (idx := 49) (v := .int r55) (h1 := (q_K0, z56.1, z56.2, q_R0)) [.int (xs (Int32.toNatClampNeg (l3 + 1))), .ref 1] 67 1 8 [.int (xs (Int32.toNatClampNeg (l3 + 1)))] [] rfl (by decide +kernel) (by decide +kernel) rfl (Nat.le_of_ble_eq_true rfl) rfl (by decide) (by decide +kernel) (by decide +kernel) (s_X9_classOf hc231) ?_
      refine q_blk2 (pc2 := 387) (ls2 := [(0, .ref 0), (1, .ref 1), (2, .ref 128), (3, .int l3)]) (st2 := [.int (l3 + 1), .ref 0, .ref 128, .int r55]) (h2 := (q_K0, z56.1, z56.2, q_R0)) [(.aload_n 2, 0, 0, 0, 0, 0), (.aload_n 0, 0, 0, 0, 0, 0), (.iload_n 3, 0, 0, 0, 0, 0), (.iconst 1, 0, 0, 0, 1, 0), (.iadd, 0, 0, 0, 0, 0)] (by decide +kernel) rfl rfl ⟨trivial, trivial, trivial, trivial, trivial, trivial⟩ ?_
      have b57 : 0 ≤ Int32.toInt (l3 + 1) ∧ Int32.toInt (l3 + 1) < xL := by
        by_cases q : 0 ≤ Int32.toInt (l3 + 1) ∧ Int32.toInt (l3 + 1) < xL
        · exact q
        · rw [if_neg q] at h; cases h
      rw [if_pos b57] at h
      refine q_sld rfl (vp_in_iff.mpr b57) (by decide +kernel) ?_
      obtain ⟨⟨r58, z59⟩, hc232, h⟩ := Option.bind_eq_some_iff.mp h
      dsimp only at h
      refine q_cV1 (idx := 52) (v := .int r58) (h1 := (q_K0, z59.1, z59.2, q_R0)) [.int (xs (Int32.toNatClampNeg (l3 + 1))), .ref 128, .int r55] 125 128 9 [.int (xs (Int32.toNatClampNeg (l3 + 1)))] [.int r55] rfl (by decide +kernel) (by decide +kernel) rfl (Nat.le_of_ble_eq_true rfl) rfl (by decide) (by decide +kernel) (by decide +kernel) (s_X10_classOf hc232) ?_
      refine q_ic_eq (off := 604) (tgt := 995) (by decide +kernel) (by decide) (fun c391_10 => ?_) (fun c391_10 => ?_)
      · rw [if_pos c391_10] at h
        refine q_pick [0, 1, 2, 3] rfl ?_
        exact t_L_law_995 h k0 k1
      · rw [if_neg c391_10] at h
        cases h
    rw [if_neg cw230] at h
    by_cases cw233 : (xs (Int32.toNatClampNeg l3)) &&& 31 = (9 : Int32)
    · rw [if_pos cw233] at h
      refine q_tabI (dflt := 962) (lo := 0) (hi := 29) (offs := #[135, 158, 191, 224, 247, 270, 293, 317, 340, 363, 438, 451, 484, 497, 530, 553, 576, 599, 622, 635, 659, 682, 715, 775, 808, 841, 864, 913, 926, 949]) (len := 135) (off := 363) (tgt := 396) (by decide +kernel) (by rw [cw233]; decide) (by rw [cw233]; decide) (by rw [cw233]; rfl) (by decide) ?_
      refine q_blk2 (pc2 := 401) (ls2 := [(0, .ref 0), (1, .ref 1), (2, .ref 128), (3, .int l3)]) (st2 := [.int (l3 + 1), .ref 0, .ref 1]) (h2 := (q_K0, z.1, z.2, q_R0)) [(.aload_n 1, 0, 0, 0, 0, 0), (.aload_n 0, 0, 0, 0, 0, 0), (.iload_n 3, 0, 0, 0, 0, 0), (.iconst 1, 0, 0, 0, 1, 0), (.iadd, 0, 0, 0, 0, 0)] (by decide +kernel) rfl rfl ⟨trivial, trivial, trivial, trivial, trivial, trivial⟩ ?_
      have b60 : 0 ≤ Int32.toInt (l3 + 1) ∧ Int32.toInt (l3 + 1) < xL := by
        by_cases q : 0 ≤ Int32.toInt (l3 + 1) ∧ Int32.toInt (l3 + 1) < xL
        · exact q
        · rw [if_neg q] at h; cases h
      rw [if_pos b60] at h
      refine q_sld rfl (vp_in_iff.mpr b60) (by decide +kernel) ?_
      refine q_blk2 (pc2 := 406) (ls2 := [(0, .ref 0), (1, .ref 1), (2, .ref 128), (3, .int l3)]) (st2 := [.int (l3 + 2), .ref 0, .int (xs (Int32.toNatClampNeg (l3 + 1))), .ref 1]) (h2 := (q_K0, z.1, z.2, q_R0)) [(.aload_n 0, 0, 0, 0, 0, 0), (.iload_n 3, 0, 0, 0, 0, 0), (.iconst 2, 0, 0, 0, 2, 0), (.iadd, 0, 0, 0, 0, 0)] (by decide +kernel) rfl rfl ⟨trivial, trivial, trivial, trivial, trivial⟩ ?_
      have b61 : 0 ≤ Int32.toInt (l3 + 2) ∧ Int32.toInt (l3 + 2) < xL := by
        by_cases q : 0 ≤ Int32.toInt (l3 + 2) ∧ Int32.toInt (l3 + 2) < xL
        · exact q
        · rw [if_neg q] at h; cases h
      rw [if_pos b61] at h
      refine q_sld rfl (vp_in_iff.mpr b61) (by decide +kernel) ?_
      refine q_blk2 (pc2 := 411) (ls2 := [(0, .ref 0), (1, .ref 1), (2, .ref 128), (3, .int l3)]) (st2 := [.int (l3 + 3), .ref 0, .int (xs (Int32.toNatClampNeg (l3 + 2))), .int (xs (Int32.toNatClampNeg (l3 + 1))), .ref 1]) (h2 := (q_K0, z.1, z.2, q_R0)) [(.aload_n 0, 0, 0, 0, 0, 0), (.iload_n 3, 0, 0, 0, 0, 0), (.iconst 3, 0, 0, 0, 3, 0), (.iadd, 0, 0, 0, 0, 0)] (by decide +kernel) rfl rfl ⟨trivial, trivial, trivial, trivial, trivial⟩ ?_
      have b62 : 0 ≤ Int32.toInt (l3 + 3) ∧ Int32.toInt (l3 + 3) < xL := by
        by_cases q : 0 ≤ Int32.toInt (l3 + 3) ∧ Int32.toInt (l3 + 3) < xL
        · exact q
        · rw [if_neg q] at h; cases h
      rw [if_pos b62] at h
      refine q_sld rfl (vp_in_iff.mpr b62) (by decide +kernel) ?_
      refine q_blk2 (pc2 := 416) (ls2 := [(0, .ref 0), (1, .ref 1), (2, .ref 128), (3, .int l3)]) (st2 := [.int (l3 + 4), .ref 0, .int (xs (Int32.toNatClampNeg (l3 + 3))), .int (xs (Int32.toNatClampNeg (l3 + 2))), .int (xs (Int32.toNatClampNeg (l3 + 1))), .ref 1]) (h2 := (q_K0, z.1, z.2, q_R0)) [(.aload_n 0, 0, 0, 0, 0, 0), (.iload_n 3, 0, 0, 0, 0, 0), (.iconst 4, 0, 0, 0, 4, 0), (.iadd, 0, 0, 0, 0, 0)] (by decide +kernel) rfl rfl ⟨trivial, trivial, trivial, trivial, trivial⟩ ?_
      have b63 : 0 ≤ Int32.toInt (l3 + 4) ∧ Int32.toInt (l3 + 4) < xL := by
        by_cases q : 0 ≤ Int32.toInt (l3 + 4) ∧ Int32.toInt (l3 + 4) < xL
        · exact q
        · rw [if_neg q] at h; cases h
      rw [if_pos b63] at h
      refine q_sld rfl (vp_in_iff.mpr b63) (by decide +kernel) ?_
      refine q_blk2 (pc2 := 421) (ls2 := [(0, .ref 0), (1, .ref 1), (2, .ref 128), (3, .int l3)]) (st2 := [.int (l3 + 5), .ref 0, .int (xs (Int32.toNatClampNeg (l3 + 4))), .int (xs (Int32.toNatClampNeg (l3 + 3))), .int (xs (Int32.toNatClampNeg (l3 + 2))), .int (xs (Int32.toNatClampNeg (l3 + 1))), .ref 1]) (h2 := (q_K0, z.1, z.2, q_R0)) [(.aload_n 0, 0, 0, 0, 0, 0), (.iload_n 3, 0, 0, 0, 0, 0), (.iconst 5, 0, 0, 0, 5, 0), (.iadd, 0, 0, 0, 0, 0)] (by decide +kernel) rfl rfl ⟨trivial, trivial, trivial, trivial, trivial⟩ ?_
      have b64 : 0 ≤ Int32.toInt (l3 + 5) ∧ Int32.toInt (l3 + 5) < xL := by
        by_cases q : 0 ≤ Int32.toInt (l3 + 5) ∧ Int32.toInt (l3 + 5) < xL
        · exact q
        · rw [if_neg q] at h; cases h
      rw [if_pos b64] at h
      refine q_sld rfl (vp_in_iff.mpr b64) (by decide +kernel) ?_
      refine q_blk2 (pc2 := 427) (ls2 := [(0, .ref 0), (1, .ref 1), (2, .ref 128), (3, .int l3)]) (st2 := [.int (l3 + 6), .ref 0, .int (xs (Int32.toNatClampNeg (l3 + 5))), .int (xs (Int32.toNatClampNeg (l3 + 4))), .int (xs (Int32.toNatClampNeg (l3 + 3))), .int (xs (Int32.toNatClampNeg (l3 + 2))), .int (xs (Int32.toNatClampNeg (l3 + 1))), .ref 1]) (h2 := (q_K0, z.1, z.2, q_R0)) [(.aload_n 0, 0, 0, 0, 0, 0), (.iload_n 3, 0, 0, 0, 0, 0), (.bipush 6, 0, 0, 0, 6, 0), (.iadd, 0, 0, 0, 0, 0)] (by decide +kernel) rfl rfl ⟨trivial, trivial, trivial, trivial, trivial⟩ ?_
      have b65 : 0 ≤ Int32.toInt (l3 + 6) ∧ Int32.toInt (l3 + 6) < xL := by
        by_cases q : 0 ≤ Int32.toInt (l3 + 6) ∧ Int32.toInt (l3 + 6) < xL
        · exact q
        · rw [if_neg q] at h; cases h
      rw [if_pos b65] at h
      refine q_sld rfl (vp_in_iff.mpr b65) (by decide +kernel) ?_
      obtain ⟨⟨r66, z67⟩, hc234, h⟩ := Option.bind_eq_some_iff.mp h
      dsimp only at h
      refine q_cV1 (idx := 53) (v := .int r66) (h1 := (q_K0, z67.1, z67.2, q_R0)) [.int (xs (Int32.toNatClampNeg (l3 + 6))), .int (xs (Int32.toNatClampNeg (l3 + 5))), .int (xs (Int32.toNatClampNeg (l3 + 4))), .int (xs (Int32.toNatClampNeg (l3 + 3))), .int (xs (Int32.toNatClampNeg (l3 + 2))), .int (xs (Int32.toNatClampNeg (l3 + 1))), .ref 1] 68 1 8 [.int (xs (Int32.toNatClampNeg (l3 + 1))), .int (xs (Int32.toNatClampNeg (l3 + 2))), .int (xs (Int32.toNatClampNeg (l3 + 3))), .int (xs (Int32.toNatClampNeg (l3 + 4))), .int (xs (Int32.toNatClampNeg (l3 + 5))), .int (xs (Int32.toNatClampNeg (l3 + 6)))] [] rfl (by decide +kernel) (by decide +kernel) rfl (Nat.le_of_ble_eq_true rfl) rfl (by decide) (by decide +kernel) (by decide +kernel) (s_X9_check hc234) ?_
      refine q_blk2 (pc2 := 436) (ls2 := [(0, .ref 0), (1, .ref 1), (2, .ref 128), (3, .int l3)]) (st2 := [.int (l3 + 1), .ref 0, .ref 128, .int r66]) (h2 := (q_K0, z67.1, z67.2, q_R0)) [(.aload_n 2, 0, 0, 0, 0, 0), (.aload_n 0, 0, 0, 0, 0, 0), (.iload_n 3, 0, 0, 0, 0, 0), (.iconst 1, 0, 0, 0, 1, 0), (.iadd, 0, 0, 0, 0, 0)] (by decide +kernel) rfl rfl ⟨trivial, trivial, trivial, trivial, trivial, trivial⟩ ?_
      have b68 : 0 ≤ Int32.toInt (l3 + 1) ∧ Int32.toInt (l3 + 1) < xL := by
        by_cases q : 0 ≤ Int32.toInt (l3 + 1) ∧ Int32.toInt (l3 + 1) < xL
        · exact q
        · rw [if_neg q] at h; cases h
      rw [if_pos b68] at h
      refine q_sld rfl (vp_in_iff.mpr b68) (by decide +kernel) ?_
      refine q_blk2 (pc2 := 441) (ls2 := [(0, .ref 0), (1, .ref 1), (2, .ref 128), (3, .int l3)]) (st2 := [.int (l3 + 2), .ref 0, .int (xs (Int32.toNatClampNeg (l3 + 1))), .ref 128, .int r66]) (h2 := (q_K0, z67.1, z67.2, q_R0)) [(.aload_n 0, 0, 0, 0, 0, 0), (.iload_n 3, 0, 0, 0, 0, 0), (.iconst 2, 0, 0, 0, 2, 0), (.iadd, 0, 0, 0, 0, 0)] (by decide +kernel) rfl rfl ⟨trivial, trivial, trivial, trivial, trivial⟩ ?_
      have b69 : 0 ≤ Int32.toInt (l3 + 2) ∧ Int32.toInt (l3 + 2) < xL := by
        by_cases q : 0 ≤ Int32.toInt (l3 + 2) ∧ Int32.toInt (l3 + 2) < xL
        · exact q
        · rw [if_neg q] at h; cases h
      rw [if_pos b69] at h
      refine q_sld rfl (vp_in_iff.mpr b69) (by decide +kernel) ?_
      refine q_blk2 (pc2 := 446) (ls2 := [(0, .ref 0), (1, .ref 1), (2, .ref 128), (3, .int l3)]) (st2 := [.int (l3 + 3), .ref 0, .int (xs (Int32.toNatClampNeg (l3 + 2))), .int (xs (Int32.toNatClampNeg (l3 + 1))), .ref 128, .int r66]) (h2 := (q_K0, z67.1, z67.2, q_R0)) [(.aload_n 0, 0, 0, 0, 0, 0), (.iload_n 3, 0, 0, 0, 0, 0), (.iconst 3, 0, 0, 0, 3, 0), (.iadd, 0, 0, 0, 0, 0)] (by decide +kernel) rfl rfl ⟨trivial, trivial, trivial, trivial, trivial⟩ ?_
      have b70 : 0 ≤ Int32.toInt (l3 + 3) ∧ Int32.toInt (l3 + 3) < xL := by
        by_cases q : 0 ≤ Int32.toInt (l3 + 3) ∧ Int32.toInt (l3 + 3) < xL
        · exact q
        · rw [if_neg q] at h; cases h
      rw [if_pos b70] at h
      refine q_sld rfl (vp_in_iff.mpr b70) (by decide +kernel) ?_
      refine q_blk2 (pc2 := 451) (ls2 := [(0, .ref 0), (1, .ref 1), (2, .ref 128), (3, .int l3)]) (st2 := [.int (l3 + 4), .ref 0, .int (xs (Int32.toNatClampNeg (l3 + 3))), .int (xs (Int32.toNatClampNeg (l3 + 2))), .int (xs (Int32.toNatClampNeg (l3 + 1))), .ref 128, .int r66]) (h2 := (q_K0, z67.1, z67.2, q_R0)) [(.aload_n 0, 0, 0, 0, 0, 0), (.iload_n 3, 0, 0, 0, 0, 0), (.iconst 4, 0, 0, 0, 4, 0), (.iadd, 0, 0, 0, 0, 0)] (by decide +kernel) rfl rfl ⟨trivial, trivial, trivial, trivial, trivial⟩ ?_
      have b71 : 0 ≤ Int32.toInt (l3 + 4) ∧ Int32.toInt (l3 + 4) < xL := by
        by_cases q : 0 ≤ Int32.toInt (l3 + 4) ∧ Int32.toInt (l3 + 4) < xL
        · exact q
        · rw [if_neg q] at h; cases h
      rw [if_pos b71] at h
      refine q_sld rfl (vp_in_iff.mpr b71) (by decide +kernel) ?_
      refine q_blk2 (pc2 := 456) (ls2 := [(0, .ref 0), (1, .ref 1), (2, .ref 128), (3, .int l3)]) (st2 := [.int (l3 + 5), .ref 0, .int (xs (Int32.toNatClampNeg (l3 + 4))), .int (xs (Int32.toNatClampNeg (l3 + 3))), .int (xs (Int32.toNatClampNeg (l3 + 2))), .int (xs (Int32.toNatClampNeg (l3 + 1))), .ref 128, .int r66]) (h2 := (q_K0, z67.1, z67.2, q_R0)) [(.aload_n 0, 0, 0, 0, 0, 0), (.iload_n 3, 0, 0, 0, 0, 0), (.iconst 5, 0, 0, 0, 5, 0), (.iadd, 0, 0, 0, 0, 0)] (by decide +kernel) rfl rfl ⟨trivial, trivial, trivial, trivial, trivial⟩ ?_
      have b72 : 0 ≤ Int32.toInt (l3 + 5) ∧ Int32.toInt (l3 + 5) < xL := by
        by_cases q : 0 ≤ Int32.toInt (l3 + 5) ∧ Int32.toInt (l3 + 5) < xL
        · exact q
        · rw [if_neg q] at h; cases h
      rw [if_pos b72] at h
      refine q_sld rfl (vp_in_iff.mpr b72) (by decide +kernel) ?_
      refine q_blk2 (pc2 := 462) (ls2 := [(0, .ref 0), (1, .ref 1), (2, .ref 128), (3, .int l3)]) (st2 := [.int (l3 + 6), .ref 0, .int (xs (Int32.toNatClampNeg (l3 + 5))), .int (xs (Int32.toNatClampNeg (l3 + 4))), .int (xs (Int32.toNatClampNeg (l3 + 3))), .int (xs (Int32.toNatClampNeg (l3 + 2))), .int (xs (Int32.toNatClampNeg (l3 + 1))), .ref 128, .int r66]) (h2 := (q_K0, z67.1, z67.2, q_R0)) [(.aload_n 0, 0, 0, 0, 0, 0), (.iload_n 3, 0, 0, 0, 0, 0), (.bipush 6, 0, 0, 0, 6, 0), (.iadd, 0, 0, 0, 0, 0)] (by decide +kernel) rfl rfl ⟨trivial, trivial, trivial, trivial, trivial⟩ ?_
      have b73 : 0 ≤ Int32.toInt (l3 + 6) ∧ Int32.toInt (l3 + 6) < xL := by
        by_cases q : 0 ≤ Int32.toInt (l3 + 6) ∧ Int32.toInt (l3 + 6) < xL
        · exact q
        · rw [if_neg q] at h; cases h
      rw [if_pos b73] at h
      refine q_sld rfl (vp_in_iff.mpr b73) (by decide +kernel) ?_
      obtain ⟨⟨r74, z75⟩, hc235, h⟩ := Option.bind_eq_some_iff.mp h
      dsimp only at h
      refine q_cV1 (idx := 57) (v := .int r74) (h1 := (q_K0, z75.1, z75.2, q_R0)) [.int (xs (Int32.toNatClampNeg (l3 + 6))), .int (xs (Int32.toNatClampNeg (l3 + 5))), .int (xs (Int32.toNatClampNeg (l3 + 4))), .int (xs (Int32.toNatClampNeg (l3 + 3))), .int (xs (Int32.toNatClampNeg (l3 + 2))), .int (xs (Int32.toNatClampNeg (l3 + 1))), .ref 128, .int r66] 126 128 9 [.int (xs (Int32.toNatClampNeg (l3 + 1))), .int (xs (Int32.toNatClampNeg (l3 + 2))), .int (xs (Int32.toNatClampNeg (l3 + 3))), .int (xs (Int32.toNatClampNeg (l3 + 4))), .int (xs (Int32.toNatClampNeg (l3 + 5))), .int (xs (Int32.toNatClampNeg (l3 + 6)))] [.int r66] rfl (by decide +kernel) (by decide +kernel) rfl (Nat.le_of_ble_eq_true rfl) rfl (by decide) (by decide +kernel) (by decide +kernel) (s_X10_check hc235) ?_
      refine q_ic_eq (off := 529) (tgt := 995) (by decide +kernel) (by decide) (fun c466_11 => ?_) (fun c466_11 => ?_)
      · rw [if_pos c466_11] at h
        refine q_pick [0, 1, 2, 3] rfl ?_
        exact t_L_law_995 h k0 k1
      · rw [if_neg c466_11] at h
        cases h
    rw [if_neg cw233] at h
    by_cases cw236 : (xs (Int32.toNatClampNeg l3)) &&& 31 = (10 : Int32)
    · rw [if_pos cw236] at h
      refine q_tabI (dflt := 962) (lo := 0) (hi := 29) (offs := #[135, 158, 191, 224, 247, 270, 293, 317, 340, 363, 438, 451, 484, 497, 530, 553, 576, 599, 622, 635, 659, 682, 715, 775, 808, 841, 864, 913, 926, 949]) (len := 135) (off := 438) (tgt := 471) (by decide +kernel) (by rw [cw236]; decide) (by rw [cw236]; decide) (by rw [cw236]; rfl) (by decide) ?_
      refine q_blk2 (pc2 := 472) (ls2 := [(0, .ref 0), (1, .ref 1), (2, .ref 128), (3, .int l3)]) (st2 := [.ref 1]) (h2 := (q_K0, z.1, z.2, q_R0)) [(.aload_n 1, 0, 0, 0, 0, 0)] (by decide +kernel) rfl rfl ⟨trivial, trivial⟩ ?_
      obtain ⟨⟨r76, z77⟩, hc237, h⟩ := Option.bind_eq_some_iff.mp h
      dsimp only at h
      refine q_cV1 (idx := 58) (v := .int r76) (h1 := (q_K0, z77.1, z77.2, q_R0)) [.ref 1] 69 1 8 [] [] rfl (by decide +kernel) (by decide +kernel) rfl (Nat.le_of_ble_eq_true rfl) rfl (by decide) (by decide +kernel) (by decide +kernel) (s_X9_classes hc237) ?_
      refine q_blk2 (pc2 := 476) (ls2 := [(0, .ref 0), (1, .ref 1), (2, .ref 128), (3, .int l3)]) (st2 := [.ref 128, .int r76]) (h2 := (q_K0, z77.1, z77.2, q_R0)) [(.aload_n 2, 0, 0, 0, 0, 0)] (by decide +kernel) rfl rfl ⟨trivial, trivial⟩ ?_
      obtain ⟨⟨r78, z79⟩, hc238, h⟩ := Option.bind_eq_some_iff.mp h
      dsimp only at h
      refine q_cV1 (idx := 62) (v := .int r78) (h1 := (q_K0, z79.1, z79.2, q_R0)) [.ref 128, .int r76] 128 128 9 [] [.int r76] rfl (by decide +kernel) (by decide +kernel) rfl (Nat.le_of_ble_eq_true rfl) rfl (by decide) (by decide +kernel) (by decide +kernel) (s_X10_classes hc238) ?_
      refine q_ic_eq (off := 516) (tgt := 995) (by decide +kernel) (by decide) (fun c479_12 => ?_) (fun c479_12 => ?_)
      · rw [if_pos c479_12] at h
        refine q_pick [0, 1, 2, 3] rfl ?_
        exact t_L_law_995 h k0 k1
      · rw [if_neg c479_12] at h
        cases h
    rw [if_neg cw236] at h
    by_cases cw239 : (xs (Int32.toNatClampNeg l3)) &&& 31 = (11 : Int32)
    · rw [if_pos cw239] at h
      refine q_tabI (dflt := 962) (lo := 0) (hi := 29) (offs := #[135, 158, 191, 224, 247, 270, 293, 317, 340, 363, 438, 451, 484, 497, 530, 553, 576, 599, 622, 635, 659, 682, 715, 775, 808, 841, 864, 913, 926, 949]) (len := 135) (off := 451) (tgt := 484) (by decide +kernel) (by rw [cw239]; decide) (by rw [cw239]; decide) (by rw [cw239]; rfl) (by decide) ?_
      refine q_blk2 (pc2 := 489) (ls2 := [(0, .ref 0), (1, .ref 1), (2, .ref 128), (3, .int l3)]) (st2 := [.int (l3 + 1), .ref 0, .ref 1]) (h2 := (q_K0, z.1, z.2, q_R0)) [(.aload_n 1, 0, 0, 0, 0, 0), (.aload_n 0, 0, 0, 0, 0, 0), (.iload_n 3, 0, 0, 0, 0, 0), (.iconst 1, 0, 0, 0, 1, 0), (.iadd, 0, 0, 0, 0, 0)] (by decide +kernel) rfl rfl ⟨trivial, trivial, trivial, trivial, trivial, trivial⟩ ?_
      have b80 : 0 ≤ Int32.toInt (l3 + 1) ∧ Int32.toInt (l3 + 1) < xL := by
        by_cases q : 0 ≤ Int32.toInt (l3 + 1) ∧ Int32.toInt (l3 + 1) < xL
        · exact q
        · rw [if_neg q] at h; cases h
      rw [if_pos b80] at h
      refine q_sld rfl (vp_in_iff.mpr b80) (by decide +kernel) ?_
      refine q_blk2 (pc2 := 494) (ls2 := [(0, .ref 0), (1, .ref 1), (2, .ref 128), (3, .int l3)]) (st2 := [.int (l3 + 2), .ref 0, .int (xs (Int32.toNatClampNeg (l3 + 1))), .ref 1]) (h2 := (q_K0, z.1, z.2, q_R0)) [(.aload_n 0, 0, 0, 0, 0, 0), (.iload_n 3, 0, 0, 0, 0, 0), (.iconst 2, 0, 0, 0, 2, 0), (.iadd, 0, 0, 0, 0, 0)] (by decide +kernel) rfl rfl ⟨trivial, trivial, trivial, trivial, trivial⟩ ?_
      have b81 : 0 ≤ Int32.toInt (l3 + 2) ∧ Int32.toInt (l3 + 2) < xL := by
        by_cases q : 0 ≤ Int32.toInt (l3 + 2) ∧ Int32.toInt (l3 + 2) < xL
        · exact q
        · rw [if_neg q] at h; cases h
      rw [if_pos b81] at h
      refine q_sld rfl (vp_in_iff.mpr b81) (by decide +kernel) ?_
      obtain ⟨⟨r82, z83⟩, hc240, h⟩ := Option.bind_eq_some_iff.mp h
      dsimp only at h
      refine q_cV1 (idx := 63) (v := .int r82) (h1 := (q_K0, z83.1, z83.2, q_R0)) [.int (xs (Int32.toNatClampNeg (l3 + 2))), .int (xs (Int32.toNatClampNeg (l3 + 1))), .ref 1] 70 1 8 [.int (xs (Int32.toNatClampNeg (l3 + 1))), .int (xs (Int32.toNatClampNeg (l3 + 2)))] [] rfl (by decide +kernel) (by decide +kernel) rfl (Nat.le_of_ble_eq_true rfl) rfl (by decide) (by decide +kernel) (by decide +kernel) (s_X9_head hc240) ?_
      refine q_blk2 (pc2 := 503) (ls2 := [(0, .ref 0), (1, .ref 1), (2, .ref 128), (3, .int l3)]) (st2 := [.int (l3 + 1), .ref 0, .ref 128, .int r82]) (h2 := (q_K0, z83.1, z83.2, q_R0)) [(.aload_n 2, 0, 0, 0, 0, 0), (.aload_n 0, 0, 0, 0, 0, 0), (.iload_n 3, 0, 0, 0, 0, 0), (.iconst 1, 0, 0, 0, 1, 0), (.iadd, 0, 0, 0, 0, 0)] (by decide +kernel) rfl rfl ⟨trivial, trivial, trivial, trivial, trivial, trivial⟩ ?_
      have b84 : 0 ≤ Int32.toInt (l3 + 1) ∧ Int32.toInt (l3 + 1) < xL := by
        by_cases q : 0 ≤ Int32.toInt (l3 + 1) ∧ Int32.toInt (l3 + 1) < xL
        · exact q
        · rw [if_neg q] at h; cases h
      rw [if_pos b84] at h
      refine q_sld rfl (vp_in_iff.mpr b84) (by decide +kernel) ?_
      refine q_blk2 (pc2 := 508) (ls2 := [(0, .ref 0), (1, .ref 1), (2, .ref 128), (3, .int l3)]) (st2 := [.int (l3 + 2), .ref 0, .int (xs (Int32.toNatClampNeg (l3 + 1))), .ref 128, .int r82]) (h2 := (q_K0, z83.1, z83.2, q_R0)) [(.aload_n 0, 0, 0, 0, 0, 0), (.iload_n 3, 0, 0, 0, 0, 0), (.iconst 2, 0, 0, 0, 2, 0), (.iadd, 0, 0, 0, 0, 0)] (by decide +kernel) rfl rfl ⟨trivial, trivial, trivial, trivial, trivial⟩ ?_
      have b85 : 0 ≤ Int32.toInt (l3 + 2) ∧ Int32.toInt (l3 + 2) < xL := by
        by_cases q : 0 ≤ Int32.toInt (l3 + 2) ∧ Int32.toInt (l3 + 2) < xL
        · exact q
        · rw [if_neg q] at h; cases h
      rw [if_pos b85] at h
      refine q_sld rfl (vp_in_iff.mpr b85) (by decide +kernel) ?_
      obtain ⟨⟨r86, z87⟩, hc241, h⟩ := Option.bind_eq_some_iff.mp h
      dsimp only at h
      refine q_cV1 (idx := 66) (v := .int r86) (h1 := (q_K0, z87.1, z87.2, q_R0)) [.int (xs (Int32.toNatClampNeg (l3 + 2))), .int (xs (Int32.toNatClampNeg (l3 + 1))), .ref 128, .int r82] 129 128 9 [.int (xs (Int32.toNatClampNeg (l3 + 1))), .int (xs (Int32.toNatClampNeg (l3 + 2)))] [.int r82] rfl (by decide +kernel) (by decide +kernel) rfl (Nat.le_of_ble_eq_true rfl) rfl (by decide) (by decide +kernel) (by decide +kernel) (s_X10_head hc241) ?_
      refine q_ic_eq (off := 483) (tgt := 995) (by decide +kernel) (by decide) (fun c512_13 => ?_) (fun c512_13 => ?_)
      · rw [if_pos c512_13] at h
        refine q_pick [0, 1, 2, 3] rfl ?_
        exact t_L_law_995 h k0 k1
      · rw [if_neg c512_13] at h
        cases h
    rw [if_neg cw239] at h
    by_cases cw242 : (xs (Int32.toNatClampNeg l3)) &&& 31 = (12 : Int32)
    · rw [if_pos cw242] at h
      refine q_tabI (dflt := 962) (lo := 0) (hi := 29) (offs := #[135, 158, 191, 224, 247, 270, 293, 317, 340, 363, 438, 451, 484, 497, 530, 553, 576, 599, 622, 635, 659, 682, 715, 775, 808, 841, 864, 913, 926, 949]) (len := 135) (off := 484) (tgt := 517) (by decide +kernel) (by rw [cw242]; decide) (by rw [cw242]; decide) (by rw [cw242]; rfl) (by decide) ?_
      refine q_blk2 (pc2 := 518) (ls2 := [(0, .ref 0), (1, .ref 1), (2, .ref 128), (3, .int l3)]) (st2 := [.ref 1]) (h2 := (q_K0, z.1, z.2, q_R0)) [(.aload_n 1, 0, 0, 0, 0, 0)] (by decide +kernel) rfl rfl ⟨trivial, trivial⟩ ?_
      obtain ⟨⟨r88, z89⟩, hc243, h⟩ := Option.bind_eq_some_iff.mp h
      dsimp only at h
      refine q_cV1 (idx := 67) (v := .int r88) (h1 := (q_K0, z89.1, z89.2, q_R0)) [.ref 1] 71 1 8 [] [] rfl (by decide +kernel) (by decide +kernel) rfl (Nat.le_of_ble_eq_true rfl) rfl (by decide) (by decide +kernel) (by decide +kernel) (s_X9_one hc243) ?_
      refine q_blk2 (pc2 := 522) (ls2 := [(0, .ref 0), (1, .ref 1), (2, .ref 128), (3, .int l3)]) (st2 := [.ref 128, .int r88]) (h2 := (q_K0, z89.1, z89.2, q_R0)) [(.aload_n 2, 0, 0, 0, 0, 0)] (by decide +kernel) rfl rfl ⟨trivial, trivial⟩ ?_
      obtain ⟨⟨r90, z91⟩, hc244, h⟩ := Option.bind_eq_some_iff.mp h
      dsimp only at h
      refine q_cV1 (idx := 70) (v := .int r90) (h1 := (q_K0, z91.1, z91.2, q_R0)) [.ref 128, .int r88] 131 128 9 [] [.int r88] rfl (by decide +kernel) (by decide +kernel) rfl (Nat.le_of_ble_eq_true rfl) rfl (by decide) (by decide +kernel) (by decide +kernel) (s_X10_one hc244) ?_
      refine q_ic_eq (off := 470) (tgt := 995) (by decide +kernel) (by decide) (fun c525_14 => ?_) (fun c525_14 => ?_)
      · rw [if_pos c525_14] at h
        refine q_pick [0, 1, 2, 3] rfl ?_
        exact t_L_law_995 h k0 k1
      · rw [if_neg c525_14] at h
        cases h
    rw [if_neg cw242] at h
    by_cases cw245 : (xs (Int32.toNatClampNeg l3)) &&& 31 = (13 : Int32)
    · rw [if_pos cw245] at h
      refine q_tabI (dflt := 962) (lo := 0) (hi := 29) (offs := #[135, 158, 191, 224, 247, 270, 293, 317, 340, 363, 438, 451, 484, 497, 530, 553, 576, 599, 622, 635, 659, 682, 715, 775, 808, 841, 864, 913, 926, 949]) (len := 135) (off := 497) (tgt := 530) (by decide +kernel) (by rw [cw245]; decide) (by rw [cw245]; decide) (by rw [cw245]; rfl) (by decide) ?_
      refine q_blk2 (pc2 := 535) (ls2 := [(0, .ref 0), (1, .ref 1), (2, .ref 128), (3, .int l3)]) (st2 := [.int (l3 + 1), .ref 0, .ref 1]) (h2 := (q_K0, z.1, z.2, q_R0)) [(.aload_n 1, 0, 0, 0, 0, 0), (.aload_n 0, 0, 0, 0, 0, 0), (.iload_n 3, 0, 0, 0, 0, 0), (.iconst 1, 0, 0, 0, 1, 0), (.iadd, 0, 0, 0, 0, 0)] (by decide +kernel) rfl rfl ⟨trivial, trivial, trivial, trivial, trivial, trivial⟩ ?_
      have b92 : 0 ≤ Int32.toInt (l3 + 1) ∧ Int32.toInt (l3 + 1) < xL := by
        by_cases q : 0 ≤ Int32.toInt (l3 + 1) ∧ Int32.toInt (l3 + 1) < xL
        · exact q
        · rw [if_neg q] at h; cases h
      rw [if_pos b92] at h
      refine q_sld rfl (vp_in_iff.mpr b92) (by decide +kernel) ?_
      refine q_blk2 (pc2 := 540) (ls2 := [(0, .ref 0), (1, .ref 1), (2, .ref 128), (3, .int l3)]) (st2 := [.int (l3 + 2), .ref 0, .int (xs (Int32.toNatClampNeg (l3 + 1))), .ref 1]) (h2 := (q_K0, z.1, z.2, q_R0)) [(.aload_n 0, 0, 0, 0, 0, 0), (.iload_n 3, 0, 0, 0, 0, 0), (.iconst 2, 0, 0, 0, 2, 0), (.iadd, 0, 0, 0, 0, 0)] (by decide +kernel) rfl rfl ⟨trivial, trivial, trivial, trivial, trivial⟩ ?_
      have b93 : 0 ≤ Int32.toInt (l3 + 2) ∧ Int32.toInt (l3 + 2) < xL := by
        by_cases q : 0 ≤ Int32.toInt (l3 + 2) ∧ Int32.toInt (l3 + 2) < xL
        · exact q
        · rw [if_neg q] at h; cases h
      rw [if_pos b93] at h
      refine q_sld rfl (vp_in_iff.mpr b93) (by decide +kernel) ?_
      obtain ⟨⟨r94, z95⟩, hc246, h⟩ := Option.bind_eq_some_iff.mp h
      dsimp only at h
      refine q_cV1 (idx := 71) (v := .int r94) (h1 := (q_K0, z95.1, z95.2, q_R0)) [.int (xs (Int32.toNatClampNeg (l3 + 2))), .int (xs (Int32.toNatClampNeg (l3 + 1))), .ref 1] 72 1 8 [.int (xs (Int32.toNatClampNeg (l3 + 1))), .int (xs (Int32.toNatClampNeg (l3 + 2)))] [] rfl (by decide +kernel) (by decide +kernel) rfl (Nat.le_of_ble_eq_true rfl) rfl (by decide) (by decide +kernel) (by decide +kernel) (s_X9_join hc246) ?_
      refine q_blk2 (pc2 := 549) (ls2 := [(0, .ref 0), (1, .ref 1), (2, .ref 128), (3, .int l3)]) (st2 := [.int (l3 + 1), .ref 0, .ref 128, .int r94]) (h2 := (q_K0, z95.1, z95.2, q_R0)) [(.aload_n 2, 0, 0, 0, 0, 0), (.aload_n 0, 0, 0, 0, 0, 0), (.iload_n 3, 0, 0, 0, 0, 0), (.iconst 1, 0, 0, 0, 1, 0), (.iadd, 0, 0, 0, 0, 0)] (by decide +kernel) rfl rfl ⟨trivial, trivial, trivial, trivial, trivial, trivial⟩ ?_
      have b96 : 0 ≤ Int32.toInt (l3 + 1) ∧ Int32.toInt (l3 + 1) < xL := by
        by_cases q : 0 ≤ Int32.toInt (l3 + 1) ∧ Int32.toInt (l3 + 1) < xL
        · exact q
        · rw [if_neg q] at h; cases h
      rw [if_pos b96] at h
      refine q_sld rfl (vp_in_iff.mpr b96) (by decide +kernel) ?_
      refine q_blk2 (pc2 := 554) (ls2 := [(0, .ref 0), (1, .ref 1), (2, .ref 128), (3, .int l3)]) (st2 := [.int (l3 + 2), .ref 0, .int (xs (Int32.toNatClampNeg (l3 + 1))), .ref 128, .int r94]) (h2 := (q_K0, z95.1, z95.2, q_R0)) [(.aload_n 0, 0, 0, 0, 0, 0), (.iload_n 3, 0, 0, 0, 0, 0), (.iconst 2, 0, 0, 0, 2, 0), (.iadd, 0, 0, 0, 0, 0)] (by decide +kernel) rfl rfl ⟨trivial, trivial, trivial, trivial, trivial⟩ ?_
      have b97 : 0 ≤ Int32.toInt (l3 + 2) ∧ Int32.toInt (l3 + 2) < xL := by
        by_cases q : 0 ≤ Int32.toInt (l3 + 2) ∧ Int32.toInt (l3 + 2) < xL
        · exact q
        · rw [if_neg q] at h; cases h
      rw [if_pos b97] at h
      refine q_sld rfl (vp_in_iff.mpr b97) (by decide +kernel) ?_
      obtain ⟨⟨r98, z99⟩, hc247, h⟩ := Option.bind_eq_some_iff.mp h
      dsimp only at h
      refine q_cV1 (idx := 74) (v := .int r98) (h1 := (q_K0, z99.1, z99.2, q_R0)) [.int (xs (Int32.toNatClampNeg (l3 + 2))), .int (xs (Int32.toNatClampNeg (l3 + 1))), .ref 128, .int r94] 134 128 9 [.int (xs (Int32.toNatClampNeg (l3 + 1))), .int (xs (Int32.toNatClampNeg (l3 + 2)))] [.int r94] rfl (by decide +kernel) (by decide +kernel) rfl (Nat.le_of_ble_eq_true rfl) rfl (by decide) (by decide +kernel) (by decide +kernel) (s_X10_join hc247) ?_
      refine q_ic_eq (off := 437) (tgt := 995) (by decide +kernel) (by decide) (fun c558_15 => ?_) (fun c558_15 => ?_)
      · rw [if_pos c558_15] at h
        refine q_pick [0, 1, 2, 3] rfl ?_
        exact t_L_law_995 h k0 k1
      · rw [if_neg c558_15] at h
        cases h
    rw [if_neg cw245] at h
    by_cases cw248 : (xs (Int32.toNatClampNeg l3)) &&& 31 = (14 : Int32)
    · rw [if_pos cw248] at h
      refine q_tabI (dflt := 962) (lo := 0) (hi := 29) (offs := #[135, 158, 191, 224, 247, 270, 293, 317, 340, 363, 438, 451, 484, 497, 530, 553, 576, 599, 622, 635, 659, 682, 715, 775, 808, 841, 864, 913, 926, 949]) (len := 135) (off := 530) (tgt := 563) (by decide +kernel) (by rw [cw248]; decide) (by rw [cw248]; decide) (by rw [cw248]; rfl) (by decide) ?_
      refine q_blk2 (pc2 := 568) (ls2 := [(0, .ref 0), (1, .ref 1), (2, .ref 128), (3, .int l3)]) (st2 := [.int (l3 + 1), .ref 0, .ref 1]) (h2 := (q_K0, z.1, z.2, q_R0)) [(.aload_n 1, 0, 0, 0, 0, 0), (.aload_n 0, 0, 0, 0, 0, 0), (.iload_n 3, 0, 0, 0, 0, 0), (.iconst 1, 0, 0, 0, 1, 0), (.iadd, 0, 0, 0, 0, 0)] (by decide +kernel) rfl rfl ⟨trivial, trivial, trivial, trivial, trivial, trivial⟩ ?_
      have b100 : 0 ≤ Int32.toInt (l3 + 1) ∧ Int32.toInt (l3 + 1) < xL := by
        by_cases q : 0 ≤ Int32.toInt (l3 + 1) ∧ Int32.toInt (l3 + 1) < xL
        · exact q
        · rw [if_neg q] at h; cases h
      rw [if_pos b100] at h
      refine q_sld rfl (vp_in_iff.mpr b100) (by decide +kernel) ?_
      obtain ⟨⟨r101, z102⟩, hc249, h⟩ := Option.bind_eq_some_iff.mp h
      dsimp only at h
      refine q_cV1 (idx := 75) (v := .int r101) (h1 := (q_K0, z102.1, z102.2, q_R0)) [.int (xs (Int32.toNatClampNeg (l3 + 1))), .ref 1] 73 1 8 [.int (xs (Int32.toNatClampNeg (l3 + 1)))] [] rfl (by decide +kernel) (by decide +kernel) rfl (Nat.le_of_ble_eq_true rfl) rfl (by decide) (by decide +kernel) (by decide +kernel) (s_X9_back hc249) ?_
      refine q_blk2 (pc2 := 577) (ls2 := [(0, .ref 0), (1, .ref 1), (2, .ref 128), (3, .int l3)]) (st2 := [.int (l3 + 1), .ref 0, .ref 128, .int r101]) (h2 := (q_K0, z102.1, z102.2, q_R0)) [(.aload_n 2, 0, 0, 0, 0, 0), (.aload_n 0, 0, 0, 0, 0, 0), (.iload_n 3, 0, 0, 0, 0, 0), (.iconst 1, 0, 0, 0, 1, 0), (.iadd, 0, 0, 0, 0, 0)] (by decide +kernel) rfl rfl ⟨trivial, trivial, trivial, trivial, trivial, trivial⟩ ?_
      have b103 : 0 ≤ Int32.toInt (l3 + 1) ∧ Int32.toInt (l3 + 1) < xL := by
        by_cases q : 0 ≤ Int32.toInt (l3 + 1) ∧ Int32.toInt (l3 + 1) < xL
        · exact q
        · rw [if_neg q] at h; cases h
      rw [if_pos b103] at h
      refine q_sld rfl (vp_in_iff.mpr b103) (by decide +kernel) ?_
      obtain ⟨⟨r104, z105⟩, hc250, h⟩ := Option.bind_eq_some_iff.mp h
      dsimp only at h
      refine q_cV1 (idx := 78) (v := .int r104) (h1 := (q_K0, z105.1, z105.2, q_R0)) [.int (xs (Int32.toNatClampNeg (l3 + 1))), .ref 128, .int r101] 135 128 9 [.int (xs (Int32.toNatClampNeg (l3 + 1)))] [.int r101] rfl (by decide +kernel) (by decide +kernel) rfl (Nat.le_of_ble_eq_true rfl) rfl (by decide) (by decide +kernel) (by decide +kernel) (s_X10_back hc250) ?_
      refine q_ic_eq (off := 414) (tgt := 995) (by decide +kernel) (by decide) (fun c581_16 => ?_) (fun c581_16 => ?_)
      · rw [if_pos c581_16] at h
        refine q_pick [0, 1, 2, 3] rfl ?_
        exact t_L_law_995 h k0 k1
      · rw [if_neg c581_16] at h
        cases h
    rw [if_neg cw248] at h
    by_cases cw251 : (xs (Int32.toNatClampNeg l3)) &&& 31 = (15 : Int32)
    · rw [if_pos cw251] at h
      refine q_tabI (dflt := 962) (lo := 0) (hi := 29) (offs := #[135, 158, 191, 224, 247, 270, 293, 317, 340, 363, 438, 451, 484, 497, 530, 553, 576, 599, 622, 635, 659, 682, 715, 775, 808, 841, 864, 913, 926, 949]) (len := 135) (off := 553) (tgt := 586) (by decide +kernel) (by rw [cw251]; decide) (by rw [cw251]; decide) (by rw [cw251]; rfl) (by decide) ?_
      refine q_blk2 (pc2 := 591) (ls2 := [(0, .ref 0), (1, .ref 1), (2, .ref 128), (3, .int l3)]) (st2 := [.int (l3 + 1), .ref 0, .ref 1]) (h2 := (q_K0, z.1, z.2, q_R0)) [(.aload_n 1, 0, 0, 0, 0, 0), (.aload_n 0, 0, 0, 0, 0, 0), (.iload_n 3, 0, 0, 0, 0, 0), (.iconst 1, 0, 0, 0, 1, 0), (.iadd, 0, 0, 0, 0, 0)] (by decide +kernel) rfl rfl ⟨trivial, trivial, trivial, trivial, trivial, trivial⟩ ?_
      have b106 : 0 ≤ Int32.toInt (l3 + 1) ∧ Int32.toInt (l3 + 1) < xL := by
        by_cases q : 0 ≤ Int32.toInt (l3 + 1) ∧ Int32.toInt (l3 + 1) < xL
        · exact q
        · rw [if_neg q] at h; cases h
      rw [if_pos b106] at h
      refine q_sld rfl (vp_in_iff.mpr b106) (by decide +kernel) ?_
      obtain ⟨⟨r107, z108⟩, hc252, h⟩ := Option.bind_eq_some_iff.mp h
      dsimp only at h
      refine q_cV1 (idx := 79) (v := .int r107) (h1 := (q_K0, z108.1, z108.2, q_R0)) [.int (xs (Int32.toNatClampNeg (l3 + 1))), .ref 1] 74 1 8 [.int (xs (Int32.toNatClampNeg (l3 + 1)))] [] rfl (by decide +kernel) (by decide +kernel) rfl (Nat.le_of_ble_eq_true rfl) rfl (by decide) (by decide +kernel) (by decide +kernel) (s_X9_order hc252) ?_
      refine q_blk2 (pc2 := 600) (ls2 := [(0, .ref 0), (1, .ref 1), (2, .ref 128), (3, .int l3)]) (st2 := [.int (l3 + 1), .ref 0, .ref 128, .int r107]) (h2 := (q_K0, z108.1, z108.2, q_R0)) [(.aload_n 2, 0, 0, 0, 0, 0), (.aload_n 0, 0, 0, 0, 0, 0), (.iload_n 3, 0, 0, 0, 0, 0), (.iconst 1, 0, 0, 0, 1, 0), (.iadd, 0, 0, 0, 0, 0)] (by decide +kernel) rfl rfl ⟨trivial, trivial, trivial, trivial, trivial, trivial⟩ ?_
      have b109 : 0 ≤ Int32.toInt (l3 + 1) ∧ Int32.toInt (l3 + 1) < xL := by
        by_cases q : 0 ≤ Int32.toInt (l3 + 1) ∧ Int32.toInt (l3 + 1) < xL
        · exact q
        · rw [if_neg q] at h; cases h
      rw [if_pos b109] at h
      refine q_sld rfl (vp_in_iff.mpr b109) (by decide +kernel) ?_
      obtain ⟨⟨r110, z111⟩, hc253, h⟩ := Option.bind_eq_some_iff.mp h
      dsimp only at h
      refine q_cV1 (idx := 82) (v := .int r110) (h1 := (q_K0, z111.1, z111.2, q_R0)) [.int (xs (Int32.toNatClampNeg (l3 + 1))), .ref 128, .int r107] 137 128 9 [.int (xs (Int32.toNatClampNeg (l3 + 1)))] [.int r107] rfl (by decide +kernel) (by decide +kernel) rfl (Nat.le_of_ble_eq_true rfl) rfl (by decide) (by decide +kernel) (by decide +kernel) (s_X10_order hc253) ?_
      refine q_ic_eq (off := 391) (tgt := 995) (by decide +kernel) (by decide) (fun c604_17 => ?_) (fun c604_17 => ?_)
      · rw [if_pos c604_17] at h
        refine q_pick [0, 1, 2, 3] rfl ?_
        exact t_L_law_995 h k0 k1
      · rw [if_neg c604_17] at h
        cases h
    rw [if_neg cw251] at h
    by_cases cw254 : (xs (Int32.toNatClampNeg l3)) &&& 31 = (16 : Int32)
    · rw [if_pos cw254] at h
      refine q_tabI (dflt := 962) (lo := 0) (hi := 29) (offs := #[135, 158, 191, 224, 247, 270, 293, 317, 340, 363, 438, 451, 484, 497, 530, 553, 576, 599, 622, 635, 659, 682, 715, 775, 808, 841, 864, 913, 926, 949]) (len := 135) (off := 576) (tgt := 609) (by decide +kernel) (by rw [cw254]; decide) (by rw [cw254]; decide) (by rw [cw254]; rfl) (by decide) ?_
      refine q_blk2 (pc2 := 614) (ls2 := [(0, .ref 0), (1, .ref 1), (2, .ref 128), (3, .int l3)]) (st2 := [.int (l3 + 1), .ref 0, .ref 1]) (h2 := (q_K0, z.1, z.2, q_R0)) [(.aload_n 1, 0, 0, 0, 0, 0), (.aload_n 0, 0, 0, 0, 0, 0), (.iload_n 3, 0, 0, 0, 0, 0), (.iconst 1, 0, 0, 0, 1, 0), (.iadd, 0, 0, 0, 0, 0)] (by decide +kernel) rfl rfl ⟨trivial, trivial, trivial, trivial, trivial, trivial⟩ ?_
      have b112 : 0 ≤ Int32.toInt (l3 + 1) ∧ Int32.toInt (l3 + 1) < xL := by
        by_cases q : 0 ≤ Int32.toInt (l3 + 1) ∧ Int32.toInt (l3 + 1) < xL
        · exact q
        · rw [if_neg q] at h; cases h
      rw [if_pos b112] at h
      refine q_sld rfl (vp_in_iff.mpr b112) (by decide +kernel) ?_
      obtain ⟨⟨r113, z114⟩, hc255, h⟩ := Option.bind_eq_some_iff.mp h
      dsimp only at h
      refine q_cV1 (idx := 83) (v := .int r113) (h1 := (q_K0, z114.1, z114.2, q_R0)) [.int (xs (Int32.toNatClampNeg (l3 + 1))), .ref 1] 75 1 8 [.int (xs (Int32.toNatClampNeg (l3 + 1)))] [] rfl (by decide +kernel) (by decide +kernel) rfl (Nat.le_of_ble_eq_true rfl) rfl (by decide) (by decide +kernel) (by decide +kernel) (s_X9_group hc255) ?_
      refine q_blk2 (pc2 := 623) (ls2 := [(0, .ref 0), (1, .ref 1), (2, .ref 128), (3, .int l3)]) (st2 := [.int (l3 + 1), .ref 0, .ref 128, .int r113]) (h2 := (q_K0, z114.1, z114.2, q_R0)) [(.aload_n 2, 0, 0, 0, 0, 0), (.aload_n 0, 0, 0, 0, 0, 0), (.iload_n 3, 0, 0, 0, 0, 0), (.iconst 1, 0, 0, 0, 1, 0), (.iadd, 0, 0, 0, 0, 0)] (by decide +kernel) rfl rfl ⟨trivial, trivial, trivial, trivial, trivial, trivial⟩ ?_
      have b115 : 0 ≤ Int32.toInt (l3 + 1) ∧ Int32.toInt (l3 + 1) < xL := by
        by_cases q : 0 ≤ Int32.toInt (l3 + 1) ∧ Int32.toInt (l3 + 1) < xL
        · exact q
        · rw [if_neg q] at h; cases h
      rw [if_pos b115] at h
      refine q_sld rfl (vp_in_iff.mpr b115) (by decide +kernel) ?_
      obtain ⟨⟨r116, z117⟩, hc256, h⟩ := Option.bind_eq_some_iff.mp h
      dsimp only at h
      refine q_cV1 (idx := 86) (v := .int r116) (h1 := (q_K0, z117.1, z117.2, q_R0)) [.int (xs (Int32.toNatClampNeg (l3 + 1))), .ref 128, .int r113] 139 128 9 [.int (xs (Int32.toNatClampNeg (l3 + 1)))] [.int r113] rfl (by decide +kernel) (by decide +kernel) rfl (Nat.le_of_ble_eq_true rfl) rfl (by decide) (by decide +kernel) (by decide +kernel) (s_X10_group hc256) ?_
      refine q_ic_eq (off := 368) (tgt := 995) (by decide +kernel) (by decide) (fun c627_18 => ?_) (fun c627_18 => ?_)
      · rw [if_pos c627_18] at h
        refine q_pick [0, 1, 2, 3] rfl ?_
        exact t_L_law_995 h k0 k1
      · rw [if_neg c627_18] at h
        cases h
    rw [if_neg cw254] at h
    by_cases cw257 : (xs (Int32.toNatClampNeg l3)) &&& 31 = (17 : Int32)
    · rw [if_pos cw257] at h
      refine q_tabI (dflt := 962) (lo := 0) (hi := 29) (offs := #[135, 158, 191, 224, 247, 270, 293, 317, 340, 363, 438, 451, 484, 497, 530, 553, 576, 599, 622, 635, 659, 682, 715, 775, 808, 841, 864, 913, 926, 949]) (len := 135) (off := 599) (tgt := 632) (by decide +kernel) (by rw [cw257]; decide) (by rw [cw257]; decide) (by rw [cw257]; rfl) (by decide) ?_
      refine q_blk2 (pc2 := 637) (ls2 := [(0, .ref 0), (1, .ref 1), (2, .ref 128), (3, .int l3)]) (st2 := [.int (l3 + 1), .ref 0, .ref 1]) (h2 := (q_K0, z.1, z.2, q_R0)) [(.aload_n 1, 0, 0, 0, 0, 0), (.aload_n 0, 0, 0, 0, 0, 0), (.iload_n 3, 0, 0, 0, 0, 0), (.iconst 1, 0, 0, 0, 1, 0), (.iadd, 0, 0, 0, 0, 0)] (by decide +kernel) rfl rfl ⟨trivial, trivial, trivial, trivial, trivial, trivial⟩ ?_
      have b118 : 0 ≤ Int32.toInt (l3 + 1) ∧ Int32.toInt (l3 + 1) < xL := by
        by_cases q : 0 ≤ Int32.toInt (l3 + 1) ∧ Int32.toInt (l3 + 1) < xL
        · exact q
        · rw [if_neg q] at h; cases h
      rw [if_pos b118] at h
      refine q_sld rfl (vp_in_iff.mpr b118) (by decide +kernel) ?_
      obtain ⟨⟨r119, z120⟩, hc258, h⟩ := Option.bind_eq_some_iff.mp h
      dsimp only at h
      refine q_cV1 (idx := 87) (v := .int r119) (h1 := (q_K0, z120.1, z120.2, q_R0)) [.int (xs (Int32.toNatClampNeg (l3 + 1))), .ref 1] 76 1 8 [.int (xs (Int32.toNatClampNeg (l3 + 1)))] [] rfl (by decide +kernel) (by decide +kernel) rfl (Nat.le_of_ble_eq_true rfl) rfl (by decide) (by decide +kernel) (by decide +kernel) (s_X9_genus hc258) ?_
      refine q_blk2 (pc2 := 646) (ls2 := [(0, .ref 0), (1, .ref 1), (2, .ref 128), (3, .int l3)]) (st2 := [.int (l3 + 1), .ref 0, .ref 128, .int r119]) (h2 := (q_K0, z120.1, z120.2, q_R0)) [(.aload_n 2, 0, 0, 0, 0, 0), (.aload_n 0, 0, 0, 0, 0, 0), (.iload_n 3, 0, 0, 0, 0, 0), (.iconst 1, 0, 0, 0, 1, 0), (.iadd, 0, 0, 0, 0, 0)] (by decide +kernel) rfl rfl ⟨trivial, trivial, trivial, trivial, trivial, trivial⟩ ?_
      have b121 : 0 ≤ Int32.toInt (l3 + 1) ∧ Int32.toInt (l3 + 1) < xL := by
        by_cases q : 0 ≤ Int32.toInt (l3 + 1) ∧ Int32.toInt (l3 + 1) < xL
        · exact q
        · rw [if_neg q] at h; cases h
      rw [if_pos b121] at h
      refine q_sld rfl (vp_in_iff.mpr b121) (by decide +kernel) ?_
      obtain ⟨⟨r122, z123⟩, hc259, h⟩ := Option.bind_eq_some_iff.mp h
      dsimp only at h
      refine q_cV1 (idx := 90) (v := .int r122) (h1 := (q_K0, z123.1, z123.2, q_R0)) [.int (xs (Int32.toNatClampNeg (l3 + 1))), .ref 128, .int r119] 141 128 9 [.int (xs (Int32.toNatClampNeg (l3 + 1)))] [.int r119] rfl (by decide +kernel) (by decide +kernel) rfl (Nat.le_of_ble_eq_true rfl) rfl (by decide) (by decide +kernel) (by decide +kernel) (s_X10_genus hc259) ?_
      refine q_ic_eq (off := 345) (tgt := 995) (by decide +kernel) (by decide) (fun c650_19 => ?_) (fun c650_19 => ?_)
      · rw [if_pos c650_19] at h
        refine q_pick [0, 1, 2, 3] rfl ?_
        exact t_L_law_995 h k0 k1
      · rw [if_neg c650_19] at h
        cases h
    rw [if_neg cw257] at h
    by_cases cw260 : (xs (Int32.toNatClampNeg l3)) &&& 31 = (18 : Int32)
    · rw [if_pos cw260] at h
      refine q_tabI (dflt := 962) (lo := 0) (hi := 29) (offs := #[135, 158, 191, 224, 247, 270, 293, 317, 340, 363, 438, 451, 484, 497, 530, 553, 576, 599, 622, 635, 659, 682, 715, 775, 808, 841, 864, 913, 926, 949]) (len := 135) (off := 622) (tgt := 655) (by decide +kernel) (by rw [cw260]; decide) (by rw [cw260]; decide) (by rw [cw260]; rfl) (by decide) ?_
      refine q_blk2 (pc2 := 656) (ls2 := [(0, .ref 0), (1, .ref 1), (2, .ref 128), (3, .int l3)]) (st2 := [.ref 1]) (h2 := (q_K0, z.1, z.2, q_R0)) [(.aload_n 1, 0, 0, 0, 0, 0)] (by decide +kernel) rfl rfl ⟨trivial, trivial⟩ ?_
      obtain ⟨⟨r124, z125⟩, hc261, h⟩ := Option.bind_eq_some_iff.mp h
      dsimp only at h
      refine q_cV1 (idx := 91) (v := .int r124) (h1 := (q_K0, z125.1, z125.2, q_R0)) [.ref 1] 77 1 8 [] [] rfl (by decide +kernel) (by decide +kernel) rfl (Nat.le_of_ble_eq_true rfl) rfl (by decide) (by decide +kernel) (by decide +kernel) (s_X9_genera hc261) ?_
      refine q_blk2 (pc2 := 660) (ls2 := [(0, .ref 0), (1, .ref 1), (2, .ref 128), (3, .int l3)]) (st2 := [.ref 128, .int r124]) (h2 := (q_K0, z125.1, z125.2, q_R0)) [(.aload_n 2, 0, 0, 0, 0, 0)] (by decide +kernel) rfl rfl ⟨trivial, trivial⟩ ?_
      obtain ⟨⟨r126, z127⟩, hc262, h⟩ := Option.bind_eq_some_iff.mp h
      dsimp only at h
      refine q_cV1 (idx := 94) (v := .int r126) (h1 := (q_K0, z127.1, z127.2, q_R0)) [.ref 128, .int r124] 142 128 9 [] [.int r124] rfl (by decide +kernel) (by decide +kernel) rfl (Nat.le_of_ble_eq_true rfl) rfl (by decide) (by decide +kernel) (by decide +kernel) (s_X10_genera hc262) ?_
      refine q_ic_eq (off := 332) (tgt := 995) (by decide +kernel) (by decide) (fun c663_20 => ?_) (fun c663_20 => ?_)
      · rw [if_pos c663_20] at h
        refine q_pick [0, 1, 2, 3] rfl ?_
        exact t_L_law_995 h k0 k1
      · rw [if_neg c663_20] at h
        cases h
    rw [if_neg cw260] at h
    by_cases cw263 : (xs (Int32.toNatClampNeg l3)) &&& 31 = (19 : Int32)
    · rw [if_pos cw263] at h
      refine q_tabI (dflt := 962) (lo := 0) (hi := 29) (offs := #[135, 158, 191, 224, 247, 270, 293, 317, 340, 363, 438, 451, 484, 497, 530, 553, 576, 599, 622, 635, 659, 682, 715, 775, 808, 841, 864, 913, 926, 949]) (len := 135) (off := 635) (tgt := 668) (by decide +kernel) (by rw [cw263]; decide) (by rw [cw263]; decide) (by rw [cw263]; rfl) (by decide) ?_
      refine q_blk2 (pc2 := 673) (ls2 := [(0, .ref 0), (1, .ref 1), (2, .ref 128), (3, .int l3)]) (st2 := [.int (l3 + 1), .ref 0, .ref 1]) (h2 := (q_K0, z.1, z.2, q_R0)) [(.aload_n 1, 0, 0, 0, 0, 0), (.aload_n 0, 0, 0, 0, 0, 0), (.iload_n 3, 0, 0, 0, 0, 0), (.iconst 1, 0, 0, 0, 1, 0), (.iadd, 0, 0, 0, 0, 0)] (by decide +kernel) rfl rfl ⟨trivial, trivial, trivial, trivial, trivial, trivial⟩ ?_
      have b128 : 0 ≤ Int32.toInt (l3 + 1) ∧ Int32.toInt (l3 + 1) < xL := by
        by_cases q : 0 ≤ Int32.toInt (l3 + 1) ∧ Int32.toInt (l3 + 1) < xL
        · exact q
        · rw [if_neg q] at h; cases h
      rw [if_pos b128] at h
      refine q_sld rfl (vp_in_iff.mpr b128) (by decide +kernel) ?_
      obtain ⟨⟨r129, z130⟩, hc264, h⟩ := Option.bind_eq_some_iff.mp h
      dsimp only at h
      refine q_cV1 (idx := 95) (v := .long r129) (h1 := (q_K0, z130.1, z130.2, q_R0)) [.int (xs (Int32.toNatClampNeg (l3 + 1))), .ref 1] 78 1 8 [.int (xs (Int32.toNatClampNeg (l3 + 1)))] [] rfl (by decide +kernel) (by decide +kernel) rfl (Nat.le_of_ble_eq_true rfl) rfl (by decide) (by decide +kernel) (by decide +kernel) (s_X9_unit hc264) ?_
      refine q_blk2 (pc2 := 682) (ls2 := [(0, .ref 0), (1, .ref 1), (2, .ref 128), (3, .int l3)]) (st2 := [.int (l3 + 1), .ref 0, .ref 128, .long r129]) (h2 := (q_K0, z130.1, z130.2, q_R0)) [(.aload_n 2, 0, 0, 0, 0, 0), (.aload_n 0, 0, 0, 0, 0, 0), (.iload_n 3, 0, 0, 0, 0, 0), (.iconst 1, 0, 0, 0, 1, 0), (.iadd, 0, 0, 0, 0, 0)] (by decide +kernel) rfl rfl ⟨trivial, trivial, trivial, trivial, trivial, trivial⟩ ?_
      have b131 : 0 ≤ Int32.toInt (l3 + 1) ∧ Int32.toInt (l3 + 1) < xL := by
        by_cases q : 0 ≤ Int32.toInt (l3 + 1) ∧ Int32.toInt (l3 + 1) < xL
        · exact q
        · rw [if_neg q] at h; cases h
      rw [if_pos b131] at h
      refine q_sld rfl (vp_in_iff.mpr b131) (by decide +kernel) ?_
      obtain ⟨⟨r132, z133⟩, hc265, h⟩ := Option.bind_eq_some_iff.mp h
      dsimp only at h
      refine q_cV1 (idx := 98) (v := .long r132) (h1 := (q_K0, z133.1, z133.2, q_R0)) [.int (xs (Int32.toNatClampNeg (l3 + 1))), .ref 128, .long r129] 145 128 9 [.int (xs (Int32.toNatClampNeg (l3 + 1)))] [.long r129] rfl (by decide +kernel) (by decide +kernel) rfl (Nat.le_of_ble_eq_true rfl) rfl (by decide) (by decide +kernel) (by decide +kernel) (s_X10_unit hc265) ?_
      refine q_lc_eq (off := 308) (tgt := 995) (by decide +kernel) (by decide +kernel) (by decide) (fun c686_21 => ?_) (fun c686_21 => ?_)
      · rw [if_pos c686_21] at h
        refine q_pick [0, 1, 2, 3] rfl ?_
        exact t_L_law_995 h k0 k1
      · rw [if_neg c686_21] at h
        cases h
    rw [if_neg cw263] at h
    by_cases cw266 : (xs (Int32.toNatClampNeg l3)) &&& 31 = (20 : Int32)
    · rw [if_pos cw266] at h
      refine q_tabI (dflt := 962) (lo := 0) (hi := 29) (offs := #[135, 158, 191, 224, 247, 270, 293, 317, 340, 363, 438, 451, 484, 497, 530, 553, 576, 599, 622, 635, 659, 682, 715, 775, 808, 841, 864, 913, 926, 949]) (len := 135) (off := 659) (tgt := 692) (by decide +kernel) (by rw [cw266]; decide) (by rw [cw266]; decide) (by rw [cw266]; rfl) (by decide) ?_
      refine q_blk2 (pc2 := 697) (ls2 := [(0, .ref 0), (1, .ref 1), (2, .ref 128), (3, .int l3)]) (st2 := [.int (l3 + 1), .ref 0, .ref 1]) (h2 := (q_K0, z.1, z.2, q_R0)) [(.aload_n 1, 0, 0, 0, 0, 0), (.aload_n 0, 0, 0, 0, 0, 0), (.iload_n 3, 0, 0, 0, 0, 0), (.iconst 1, 0, 0, 0, 1, 0), (.iadd, 0, 0, 0, 0, 0)] (by decide +kernel) rfl rfl ⟨trivial, trivial, trivial, trivial, trivial, trivial⟩ ?_
      have b134 : 0 ≤ Int32.toInt (l3 + 1) ∧ Int32.toInt (l3 + 1) < xL := by
        by_cases q : 0 ≤ Int32.toInt (l3 + 1) ∧ Int32.toInt (l3 + 1) < xL
        · exact q
        · rw [if_neg q] at h; cases h
      rw [if_pos b134] at h
      refine q_sld rfl (vp_in_iff.mpr b134) (by decide +kernel) ?_
      obtain ⟨⟨r135, z136⟩, hc267, h⟩ := Option.bind_eq_some_iff.mp h
      dsimp only at h
      refine q_cV1 (idx := 99) (v := .int r135) (h1 := (q_K0, z136.1, z136.2, q_R0)) [.int (xs (Int32.toNatClampNeg (l3 + 1))), .ref 1] 79 1 8 [.int (xs (Int32.toNatClampNeg (l3 + 1)))] [] rfl (by decide +kernel) (by decide +kernel) rfl (Nat.le_of_ble_eq_true rfl) rfl (by decide) (by decide +kernel) (by decide +kernel) (s_X9_period hc267) ?_
      refine q_blk2 (pc2 := 706) (ls2 := [(0, .ref 0), (1, .ref 1), (2, .ref 128), (3, .int l3)]) (st2 := [.int (l3 + 1), .ref 0, .ref 128, .int r135]) (h2 := (q_K0, z136.1, z136.2, q_R0)) [(.aload_n 2, 0, 0, 0, 0, 0), (.aload_n 0, 0, 0, 0, 0, 0), (.iload_n 3, 0, 0, 0, 0, 0), (.iconst 1, 0, 0, 0, 1, 0), (.iadd, 0, 0, 0, 0, 0)] (by decide +kernel) rfl rfl ⟨trivial, trivial, trivial, trivial, trivial, trivial⟩ ?_
      have b137 : 0 ≤ Int32.toInt (l3 + 1) ∧ Int32.toInt (l3 + 1) < xL := by
        by_cases q : 0 ≤ Int32.toInt (l3 + 1) ∧ Int32.toInt (l3 + 1) < xL
        · exact q
        · rw [if_neg q] at h; cases h
      rw [if_pos b137] at h
      refine q_sld rfl (vp_in_iff.mpr b137) (by decide +kernel) ?_
      obtain ⟨⟨r138, z139⟩, hc268, h⟩ := Option.bind_eq_some_iff.mp h
      dsimp only at h
      refine q_cV1 (idx := 102) (v := .int r138) (h1 := (q_K0, z139.1, z139.2, q_R0)) [.int (xs (Int32.toNatClampNeg (l3 + 1))), .ref 128, .int r135] 147 128 9 [.int (xs (Int32.toNatClampNeg (l3 + 1)))] [.int r135] rfl (by decide +kernel) (by decide +kernel) rfl (Nat.le_of_ble_eq_true rfl) rfl (by decide) (by decide +kernel) (by decide +kernel) (s_X10_period hc268) ?_
      refine q_ic_eq (off := 285) (tgt := 995) (by decide +kernel) (by decide) (fun c710_22 => ?_) (fun c710_22 => ?_)
      · rw [if_pos c710_22] at h
        refine q_pick [0, 1, 2, 3] rfl ?_
        exact t_L_law_995 h k0 k1
      · rw [if_neg c710_22] at h
        cases h
    rw [if_neg cw266] at h
    by_cases cw269 : (xs (Int32.toNatClampNeg l3)) &&& 31 = (21 : Int32)
    · rw [if_pos cw269] at h
      refine q_tabI (dflt := 962) (lo := 0) (hi := 29) (offs := #[135, 158, 191, 224, 247, 270, 293, 317, 340, 363, 438, 451, 484, 497, 530, 553, 576, 599, 622, 635, 659, 682, 715, 775, 808, 841, 864, 913, 926, 949]) (len := 135) (off := 682) (tgt := 715) (by decide +kernel) (by rw [cw269]; decide) (by rw [cw269]; decide) (by rw [cw269]; rfl) (by decide) ?_
      refine q_blk2 (pc2 := 720) (ls2 := [(0, .ref 0), (1, .ref 1), (2, .ref 128), (3, .int l3)]) (st2 := [.int (l3 + 1), .ref 0, .ref 1]) (h2 := (q_K0, z.1, z.2, q_R0)) [(.aload_n 1, 0, 0, 0, 0, 0), (.aload_n 0, 0, 0, 0, 0, 0), (.iload_n 3, 0, 0, 0, 0, 0), (.iconst 1, 0, 0, 0, 1, 0), (.iadd, 0, 0, 0, 0, 0)] (by decide +kernel) rfl rfl ⟨trivial, trivial, trivial, trivial, trivial, trivial⟩ ?_
      have b140 : 0 ≤ Int32.toInt (l3 + 1) ∧ Int32.toInt (l3 + 1) < xL := by
        by_cases q : 0 ≤ Int32.toInt (l3 + 1) ∧ Int32.toInt (l3 + 1) < xL
        · exact q
        · rw [if_neg q] at h; cases h
      rw [if_pos b140] at h
      refine q_sld rfl (vp_in_iff.mpr b140) (by decide +kernel) ?_
      refine q_blk2 (pc2 := 725) (ls2 := [(0, .ref 0), (1, .ref 1), (2, .ref 128), (3, .int l3)]) (st2 := [.int (l3 + 2), .ref 0, .int (xs (Int32.toNatClampNeg (l3 + 1))), .ref 1]) (h2 := (q_K0, z.1, z.2, q_R0)) [(.aload_n 0, 0, 0, 0, 0, 0), (.iload_n 3, 0, 0, 0, 0, 0), (.iconst 2, 0, 0, 0, 2, 0), (.iadd, 0, 0, 0, 0, 0)] (by decide +kernel) rfl rfl ⟨trivial, trivial, trivial, trivial, trivial⟩ ?_
      have b141 : 0 ≤ Int32.toInt (l3 + 2) ∧ Int32.toInt (l3 + 2) < xL := by
        by_cases q : 0 ≤ Int32.toInt (l3 + 2) ∧ Int32.toInt (l3 + 2) < xL
        · exact q
        · rw [if_neg q] at h; cases h
      rw [if_pos b141] at h
      refine q_sld rfl (vp_in_iff.mpr b141) (by decide +kernel) ?_
      obtain ⟨⟨r142, z143⟩, hc270, h⟩ := Option.bind_eq_some_iff.mp h
      dsimp only at h
      refine q_cV1 (idx := 103) (v := .int r142) (h1 := (q_K0, z143.1, z143.2, q_R0)) [.int (xs (Int32.toNatClampNeg (l3 + 2))), .int (xs (Int32.toNatClampNeg (l3 + 1))), .ref 1] 80 1 8 [.int (xs (Int32.toNatClampNeg (l3 + 1))), .int (xs (Int32.toNatClampNeg (l3 + 2)))] [] rfl (by decide +kernel) (by decide +kernel) rfl (Nat.le_of_ble_eq_true rfl) rfl (by decide) (by decide +kernel) (by decide +kernel) (s_X9_quotient hc270) ?_
      refine q_blk2 (pc2 := 734) (ls2 := [(0, .ref 0), (1, .ref 1), (2, .ref 128), (3, .int l3)]) (st2 := [.int (l3 + 1), .ref 0, .ref 128, .int r142]) (h2 := (q_K0, z143.1, z143.2, q_R0)) [(.aload_n 2, 0, 0, 0, 0, 0), (.aload_n 0, 0, 0, 0, 0, 0), (.iload_n 3, 0, 0, 0, 0, 0), (.iconst 1, 0, 0, 0, 1, 0), (.iadd, 0, 0, 0, 0, 0)] (by decide +kernel) rfl rfl ⟨trivial, trivial, trivial, trivial, trivial, trivial⟩ ?_
      have b144 : 0 ≤ Int32.toInt (l3 + 1) ∧ Int32.toInt (l3 + 1) < xL := by
        by_cases q : 0 ≤ Int32.toInt (l3 + 1) ∧ Int32.toInt (l3 + 1) < xL
        · exact q
        · rw [if_neg q] at h; cases h
      rw [if_pos b144] at h
      refine q_sld rfl (vp_in_iff.mpr b144) (by decide +kernel) ?_
      refine q_blk2 (pc2 := 739) (ls2 := [(0, .ref 0), (1, .ref 1), (2, .ref 128), (3, .int l3)]) (st2 := [.int (l3 + 2), .ref 0, .int (xs (Int32.toNatClampNeg (l3 + 1))), .ref 128, .int r142]) (h2 := (q_K0, z143.1, z143.2, q_R0)) [(.aload_n 0, 0, 0, 0, 0, 0), (.iload_n 3, 0, 0, 0, 0, 0), (.iconst 2, 0, 0, 0, 2, 0), (.iadd, 0, 0, 0, 0, 0)] (by decide +kernel) rfl rfl ⟨trivial, trivial, trivial, trivial, trivial⟩ ?_
      have b145 : 0 ≤ Int32.toInt (l3 + 2) ∧ Int32.toInt (l3 + 2) < xL := by
        by_cases q : 0 ≤ Int32.toInt (l3 + 2) ∧ Int32.toInt (l3 + 2) < xL
        · exact q
        · rw [if_neg q] at h; cases h
      rw [if_pos b145] at h
      refine q_sld rfl (vp_in_iff.mpr b145) (by decide +kernel) ?_
      obtain ⟨⟨r146, z147⟩, hc271, h⟩ := Option.bind_eq_some_iff.mp h
      dsimp only at h
      refine q_cV1 (idx := 106) (v := .int r146) (h1 := (q_K0, z147.1, z147.2, q_R0)) [.int (xs (Int32.toNatClampNeg (l3 + 2))), .int (xs (Int32.toNatClampNeg (l3 + 1))), .ref 128, .int r142] 148 128 9 [.int (xs (Int32.toNatClampNeg (l3 + 1))), .int (xs (Int32.toNatClampNeg (l3 + 2)))] [.int r142] rfl (by decide +kernel) (by decide +kernel) rfl (Nat.le_of_ble_eq_true rfl) rfl (by decide) (by decide +kernel) (by decide +kernel) (s_X10_quotient hc271) ?_
      refine q_ic_eq (off := 252) (tgt := 995) (by decide +kernel) (by decide) (fun c743_23 => ?_) (fun c743_23 => ?_)
      · rw [if_pos c743_23] at h
        refine q_pick [0, 1, 2, 3] rfl ?_
        exact t_L_law_995 h k0 k1
      · rw [if_neg c743_23] at h
        cases h
    rw [if_neg cw269] at h
    by_cases cw272 : (xs (Int32.toNatClampNeg l3)) &&& 31 = (22 : Int32)
    · rw [if_pos cw272] at h
      refine q_tabI (dflt := 962) (lo := 0) (hi := 29) (offs := #[135, 158, 191, 224, 247, 270, 293, 317, 340, 363, 438, 451, 484, 497, 530, 553, 576, 599, 622, 635, 659, 682, 715, 775, 808, 841, 864, 913, 926, 949]) (len := 135) (off := 715) (tgt := 748) (by decide +kernel) (by rw [cw272]; decide) (by rw [cw272]; decide) (by rw [cw272]; rfl) (by decide) ?_
      refine q_blk2 (pc2 := 753) (ls2 := [(0, .ref 0), (1, .ref 1), (2, .ref 128), (3, .int l3)]) (st2 := [.int (l3 + 1), .ref 0, .ref 1]) (h2 := (q_K0, z.1, z.2, q_R0)) [(.aload_n 1, 0, 0, 0, 0, 0), (.aload_n 0, 0, 0, 0, 0, 0), (.iload_n 3, 0, 0, 0, 0, 0), (.iconst 1, 0, 0, 0, 1, 0), (.iadd, 0, 0, 0, 0, 0)] (by decide +kernel) rfl rfl ⟨trivial, trivial, trivial, trivial, trivial, trivial⟩ ?_
      have b148 : 0 ≤ Int32.toInt (l3 + 1) ∧ Int32.toInt (l3 + 1) < xL := by
        by_cases q : 0 ≤ Int32.toInt (l3 + 1) ∧ Int32.toInt (l3 + 1) < xL
        · exact q
        · rw [if_neg q] at h; cases h
      rw [if_pos b148] at h
      refine q_sld rfl (vp_in_iff.mpr b148) (by decide +kernel) ?_
      refine q_blk2 (pc2 := 758) (ls2 := [(0, .ref 0), (1, .ref 1), (2, .ref 128), (3, .int l3)]) (st2 := [.int (l3 + 2), .ref 0, .int (xs (Int32.toNatClampNeg (l3 + 1))), .ref 1]) (h2 := (q_K0, z.1, z.2, q_R0)) [(.aload_n 0, 0, 0, 0, 0, 0), (.iload_n 3, 0, 0, 0, 0, 0), (.iconst 2, 0, 0, 0, 2, 0), (.iadd, 0, 0, 0, 0, 0)] (by decide +kernel) rfl rfl ⟨trivial, trivial, trivial, trivial, trivial⟩ ?_
      have b149 : 0 ≤ Int32.toInt (l3 + 2) ∧ Int32.toInt (l3 + 2) < xL := by
        by_cases q : 0 ≤ Int32.toInt (l3 + 2) ∧ Int32.toInt (l3 + 2) < xL
        · exact q
        · rw [if_neg q] at h; cases h
      rw [if_pos b149] at h
      refine q_sld rfl (vp_in_iff.mpr b149) (by decide +kernel) ?_
      refine q_blk2 (pc2 := 763) (ls2 := [(0, .ref 0), (1, .ref 1), (2, .ref 128), (3, .int l3)]) (st2 := [.int (l3 + 3), .ref 0, .int (xs (Int32.toNatClampNeg (l3 + 2))), .int (xs (Int32.toNatClampNeg (l3 + 1))), .ref 1]) (h2 := (q_K0, z.1, z.2, q_R0)) [(.aload_n 0, 0, 0, 0, 0, 0), (.iload_n 3, 0, 0, 0, 0, 0), (.iconst 3, 0, 0, 0, 3, 0), (.iadd, 0, 0, 0, 0, 0)] (by decide +kernel) rfl rfl ⟨trivial, trivial, trivial, trivial, trivial⟩ ?_
      have b150 : 0 ≤ Int32.toInt (l3 + 3) ∧ Int32.toInt (l3 + 3) < xL := by
        by_cases q : 0 ≤ Int32.toInt (l3 + 3) ∧ Int32.toInt (l3 + 3) < xL
        · exact q
        · rw [if_neg q] at h; cases h
      rw [if_pos b150] at h
      refine q_sld rfl (vp_in_iff.mpr b150) (by decide +kernel) ?_
      refine q_if_eq (off := 7) (tgt := 771) (by decide +kernel) (by decide) (fun c764_24 => ?_) (fun c764_24 => ?_)
      · rw [if_pos c764_24] at h
        refine q_blk2 (pc2 := 772) (ls2 := [(0, .ref 0), (1, .ref 1), (2, .ref 128), (3, .int l3)]) (st2 := [.int 0, .int (xs (Int32.toNatClampNeg (l3 + 2))), .int (xs (Int32.toNatClampNeg (l3 + 1))), .ref 1]) (h2 := (q_K0, z.1, z.2, q_R0)) [(.iconst 0, 0, 0, 0, 0, 0)] (by decide +kernel) rfl rfl ⟨trivial, trivial⟩ ?_
        refine q_pick [0, 1, 2, 3] rfl ?_
        exact t_L_law_772 h k0 k1
      · rw [if_neg c764_24] at h
        refine q_blk2 (pc2 := 768) (ls2 := [(0, .ref 0), (1, .ref 1), (2, .ref 128), (3, .int l3)]) (st2 := [.int 1, .int (xs (Int32.toNatClampNeg (l3 + 2))), .int (xs (Int32.toNatClampNeg (l3 + 1))), .ref 1]) (h2 := (q_K0, z.1, z.2, q_R0)) [(.iconst 1, 0, 0, 0, 1, 0)] (by decide +kernel) rfl rfl ⟨trivial, trivial⟩ ?_
        refine q_goto (off := 4) (tgt := 772) (by decide +kernel) (by decide) ?_
        refine q_pick [0, 1, 2, 3] rfl ?_
        exact t_L_law_772 h k0 k1
    rw [if_neg cw272] at h
    by_cases cw273 : (xs (Int32.toNatClampNeg l3)) &&& 31 = (23 : Int32)
    · rw [if_pos cw273] at h
      refine q_tabI (dflt := 962) (lo := 0) (hi := 29) (offs := #[135, 158, 191, 224, 247, 270, 293, 317, 340, 363, 438, 451, 484, 497, 530, 553, 576, 599, 622, 635, 659, 682, 715, 775, 808, 841, 864, 913, 926, 949]) (len := 135) (off := 775) (tgt := 808) (by decide +kernel) (by rw [cw273]; decide) (by rw [cw273]; decide) (by rw [cw273]; rfl) (by decide) ?_
      refine q_blk2 (pc2 := 813) (ls2 := [(0, .ref 0), (1, .ref 1), (2, .ref 128), (3, .int l3)]) (st2 := [.int (l3 + 1), .ref 0, .ref 1]) (h2 := (q_K0, z.1, z.2, q_R0)) [(.aload_n 1, 0, 0, 0, 0, 0), (.aload_n 0, 0, 0, 0, 0, 0), (.iload_n 3, 0, 0, 0, 0, 0), (.iconst 1, 0, 0, 0, 1, 0), (.iadd, 0, 0, 0, 0, 0)] (by decide +kernel) rfl rfl ⟨trivial, trivial, trivial, trivial, trivial, trivial⟩ ?_
      have b160 : 0 ≤ Int32.toInt (l3 + 1) ∧ Int32.toInt (l3 + 1) < xL := by
        by_cases q : 0 ≤ Int32.toInt (l3 + 1) ∧ Int32.toInt (l3 + 1) < xL
        · exact q
        · rw [if_neg q] at h; cases h
      rw [if_pos b160] at h
      refine q_sld rfl (vp_in_iff.mpr b160) (by decide +kernel) ?_
      refine q_blk2 (pc2 := 818) (ls2 := [(0, .ref 0), (1, .ref 1), (2, .ref 128), (3, .int l3)]) (st2 := [.int (l3 + 2), .ref 0, .int (xs (Int32.toNatClampNeg (l3 + 1))), .ref 1]) (h2 := (q_K0, z.1, z.2, q_R0)) [(.aload_n 0, 0, 0, 0, 0, 0), (.iload_n 3, 0, 0, 0, 0, 0), (.iconst 2, 0, 0, 0, 2, 0), (.iadd, 0, 0, 0, 0, 0)] (by decide +kernel) rfl rfl ⟨trivial, trivial, trivial, trivial, trivial⟩ ?_
      have b161 : 0 ≤ Int32.toInt (l3 + 2) ∧ Int32.toInt (l3 + 2) < xL := by
        by_cases q : 0 ≤ Int32.toInt (l3 + 2) ∧ Int32.toInt (l3 + 2) < xL
        · exact q
        · rw [if_neg q] at h; cases h
      rw [if_pos b161] at h
      refine q_sld rfl (vp_in_iff.mpr b161) (by decide +kernel) ?_
      obtain ⟨⟨r162, z163⟩, hc274, h⟩ := Option.bind_eq_some_iff.mp h
      dsimp only at h
      refine q_cV1 (idx := 112) (v := .int r162) (h1 := (q_K0, z163.1, z163.2, q_R0)) [.int (xs (Int32.toNatClampNeg (l3 + 2))), .int (xs (Int32.toNatClampNeg (l3 + 1))), .ref 1] 82 1 8 [.int (xs (Int32.toNatClampNeg (l3 + 1))), .int (xs (Int32.toNatClampNeg (l3 + 2)))] [] rfl (by decide +kernel) (by decide +kernel) rfl (Nat.le_of_ble_eq_true rfl) rfl (by decide) (by decide +kernel) (by decide +kernel) (s_X9_takes hc274) ?_
      refine q_blk2 (pc2 := 827) (ls2 := [(0, .ref 0), (1, .ref 1), (2, .ref 128), (3, .int l3)]) (st2 := [.int (l3 + 1), .ref 0, .ref 128, .int r162]) (h2 := (q_K0, z163.1, z163.2, q_R0)) [(.aload_n 2, 0, 0, 0, 0, 0), (.aload_n 0, 0, 0, 0, 0, 0), (.iload_n 3, 0, 0, 0, 0, 0), (.iconst 1, 0, 0, 0, 1, 0), (.iadd, 0, 0, 0, 0, 0)] (by decide +kernel) rfl rfl ⟨trivial, trivial, trivial, trivial, trivial, trivial⟩ ?_
      have b164 : 0 ≤ Int32.toInt (l3 + 1) ∧ Int32.toInt (l3 + 1) < xL := by
        by_cases q : 0 ≤ Int32.toInt (l3 + 1) ∧ Int32.toInt (l3 + 1) < xL
        · exact q
        · rw [if_neg q] at h; cases h
      rw [if_pos b164] at h
      refine q_sld rfl (vp_in_iff.mpr b164) (by decide +kernel) ?_
      refine q_blk2 (pc2 := 832) (ls2 := [(0, .ref 0), (1, .ref 1), (2, .ref 128), (3, .int l3)]) (st2 := [.int (l3 + 2), .ref 0, .int (xs (Int32.toNatClampNeg (l3 + 1))), .ref 128, .int r162]) (h2 := (q_K0, z163.1, z163.2, q_R0)) [(.aload_n 0, 0, 0, 0, 0, 0), (.iload_n 3, 0, 0, 0, 0, 0), (.iconst 2, 0, 0, 0, 2, 0), (.iadd, 0, 0, 0, 0, 0)] (by decide +kernel) rfl rfl ⟨trivial, trivial, trivial, trivial, trivial⟩ ?_
      have b165 : 0 ≤ Int32.toInt (l3 + 2) ∧ Int32.toInt (l3 + 2) < xL := by
        by_cases q : 0 ≤ Int32.toInt (l3 + 2) ∧ Int32.toInt (l3 + 2) < xL
        · exact q
        · rw [if_neg q] at h; cases h
      rw [if_pos b165] at h
      refine q_sld rfl (vp_in_iff.mpr b165) (by decide +kernel) ?_
      obtain ⟨⟨r166, z167⟩, hc275, h⟩ := Option.bind_eq_some_iff.mp h
      dsimp only at h
      refine q_cV1 (idx := 115) (v := .int r166) (h1 := (q_K0, z167.1, z167.2, q_R0)) [.int (xs (Int32.toNatClampNeg (l3 + 2))), .int (xs (Int32.toNatClampNeg (l3 + 1))), .ref 128, .int r162] 151 128 9 [.int (xs (Int32.toNatClampNeg (l3 + 1))), .int (xs (Int32.toNatClampNeg (l3 + 2)))] [.int r162] rfl (by decide +kernel) (by decide +kernel) rfl (Nat.le_of_ble_eq_true rfl) rfl (by decide) (by decide +kernel) (by decide +kernel) (s_X10_takes hc275) ?_
      refine q_ic_eq (off := 159) (tgt := 995) (by decide +kernel) (by decide) (fun c836_25 => ?_) (fun c836_25 => ?_)
      · rw [if_pos c836_25] at h
        refine q_pick [0, 1, 2, 3] rfl ?_
        exact t_L_law_995 h k0 k1
      · rw [if_neg c836_25] at h
        cases h
    rw [if_neg cw273] at h
    by_cases cw276 : (xs (Int32.toNatClampNeg l3)) &&& 31 = (24 : Int32)
    · rw [if_pos cw276] at h
      refine q_tabI (dflt := 962) (lo := 0) (hi := 29) (offs := #[135, 158, 191, 224, 247, 270, 293, 317, 340, 363, 438, 451, 484, 497, 530, 553, 576, 599, 622, 635, 659, 682, 715, 775, 808, 841, 864, 913, 926, 949]) (len := 135) (off := 808) (tgt := 841) (by decide +kernel) (by rw [cw276]; decide) (by rw [cw276]; decide) (by rw [cw276]; rfl) (by decide) ?_
      refine q_blk2 (pc2 := 846) (ls2 := [(0, .ref 0), (1, .ref 1), (2, .ref 128), (3, .int l3)]) (st2 := [.int (l3 + 1), .ref 0, .ref 1]) (h2 := (q_K0, z.1, z.2, q_R0)) [(.aload_n 1, 0, 0, 0, 0, 0), (.aload_n 0, 0, 0, 0, 0, 0), (.iload_n 3, 0, 0, 0, 0, 0), (.iconst 1, 0, 0, 0, 1, 0), (.iadd, 0, 0, 0, 0, 0)] (by decide +kernel) rfl rfl ⟨trivial, trivial, trivial, trivial, trivial, trivial⟩ ?_
      have b168 : 0 ≤ Int32.toInt (l3 + 1) ∧ Int32.toInt (l3 + 1) < xL := by
        by_cases q : 0 ≤ Int32.toInt (l3 + 1) ∧ Int32.toInt (l3 + 1) < xL
        · exact q
        · rw [if_neg q] at h; cases h
      rw [if_pos b168] at h
      refine q_sld rfl (vp_in_iff.mpr b168) (by decide +kernel) ?_
      refine q_blk2 (pc2 := 851) (ls2 := [(0, .ref 0), (1, .ref 1), (2, .ref 128), (3, .int l3)]) (st2 := [.int (l3 + 2), .ref 0, .int (xs (Int32.toNatClampNeg (l3 + 1))), .ref 1]) (h2 := (q_K0, z.1, z.2, q_R0)) [(.aload_n 0, 0, 0, 0, 0, 0), (.iload_n 3, 0, 0, 0, 0, 0), (.iconst 2, 0, 0, 0, 2, 0), (.iadd, 0, 0, 0, 0, 0)] (by decide +kernel) rfl rfl ⟨trivial, trivial, trivial, trivial, trivial⟩ ?_
      have b169 : 0 ≤ Int32.toInt (l3 + 2) ∧ Int32.toInt (l3 + 2) < xL := by
        by_cases q : 0 ≤ Int32.toInt (l3 + 2) ∧ Int32.toInt (l3 + 2) < xL
        · exact q
        · rw [if_neg q] at h; cases h
      rw [if_pos b169] at h
      refine q_sld rfl (vp_in_iff.mpr b169) (by decide +kernel) ?_
      obtain ⟨⟨r170, z171⟩, hc277, h⟩ := Option.bind_eq_some_iff.mp h
      dsimp only at h
      refine q_cV1 (idx := 116) (v := .int r170) (h1 := (q_K0, z171.1, z171.2, q_R0)) [.int (xs (Int32.toNatClampNeg (l3 + 2))), .int (xs (Int32.toNatClampNeg (l3 + 1))), .ref 1] 83 1 8 [.int (xs (Int32.toNatClampNeg (l3 + 1))), .int (xs (Int32.toNatClampNeg (l3 + 2)))] [] rfl (by decide +kernel) (by decide +kernel) rfl (Nat.le_of_ble_eq_true rfl) rfl (by decide) (by decide +kernel) (by decide +kernel) (s_X9_proper hc277) ?_
      refine q_blk2 (pc2 := 860) (ls2 := [(0, .ref 0), (1, .ref 1), (2, .ref 128), (3, .int l3)]) (st2 := [.int (l3 + 1), .ref 0, .ref 128, .int r170]) (h2 := (q_K0, z171.1, z171.2, q_R0)) [(.aload_n 2, 0, 0, 0, 0, 0), (.aload_n 0, 0, 0, 0, 0, 0), (.iload_n 3, 0, 0, 0, 0, 0), (.iconst 1, 0, 0, 0, 1, 0), (.iadd, 0, 0, 0, 0, 0)] (by decide +kernel) rfl rfl ⟨trivial, trivial, trivial, trivial, trivial, trivial⟩ ?_
      have b172 : 0 ≤ Int32.toInt (l3 + 1) ∧ Int32.toInt (l3 + 1) < xL := by
        by_cases q : 0 ≤ Int32.toInt (l3 + 1) ∧ Int32.toInt (l3 + 1) < xL
        · exact q
        · rw [if_neg q] at h; cases h
      rw [if_pos b172] at h
      refine q_sld rfl (vp_in_iff.mpr b172) (by decide +kernel) ?_
      refine q_blk2 (pc2 := 865) (ls2 := [(0, .ref 0), (1, .ref 1), (2, .ref 128), (3, .int l3)]) (st2 := [.int (l3 + 2), .ref 0, .int (xs (Int32.toNatClampNeg (l3 + 1))), .ref 128, .int r170]) (h2 := (q_K0, z171.1, z171.2, q_R0)) [(.aload_n 0, 0, 0, 0, 0, 0), (.iload_n 3, 0, 0, 0, 0, 0), (.iconst 2, 0, 0, 0, 2, 0), (.iadd, 0, 0, 0, 0, 0)] (by decide +kernel) rfl rfl ⟨trivial, trivial, trivial, trivial, trivial⟩ ?_
      have b173 : 0 ≤ Int32.toInt (l3 + 2) ∧ Int32.toInt (l3 + 2) < xL := by
        by_cases q : 0 ≤ Int32.toInt (l3 + 2) ∧ Int32.toInt (l3 + 2) < xL
        · exact q
        · rw [if_neg q] at h; cases h
      rw [if_pos b173] at h
      refine q_sld rfl (vp_in_iff.mpr b173) (by decide +kernel) ?_
      obtain ⟨⟨r174, z175⟩, hc278, h⟩ := Option.bind_eq_some_iff.mp h
      dsimp only at h
      refine q_cV1 (idx := 119) (v := .int r174) (h1 := (q_K0, z175.1, z175.2, q_R0)) [.int (xs (Int32.toNatClampNeg (l3 + 2))), .int (xs (Int32.toNatClampNeg (l3 + 1))), .ref 128, .int r170] 152 128 9 [.int (xs (Int32.toNatClampNeg (l3 + 1))), .int (xs (Int32.toNatClampNeg (l3 + 2)))] [.int r170] rfl (by decide +kernel) (by decide +kernel) rfl (Nat.le_of_ble_eq_true rfl) rfl (by decide) (by decide +kernel) (by decide +kernel) (s_X10_proper hc278) ?_
      refine q_ic_eq (off := 126) (tgt := 995) (by decide +kernel) (by decide) (fun c869_26 => ?_) (fun c869_26 => ?_)
      · rw [if_pos c869_26] at h
        refine q_pick [0, 1, 2, 3] rfl ?_
        exact t_L_law_995 h k0 k1
      · rw [if_neg c869_26] at h
        cases h
    rw [if_neg cw276] at h
    by_cases cw279 : (xs (Int32.toNatClampNeg l3)) &&& 31 = (25 : Int32)
    · rw [if_pos cw279] at h
      refine q_tabI (dflt := 962) (lo := 0) (hi := 29) (offs := #[135, 158, 191, 224, 247, 270, 293, 317, 340, 363, 438, 451, 484, 497, 530, 553, 576, 599, 622, 635, 659, 682, 715, 775, 808, 841, 864, 913, 926, 949]) (len := 135) (off := 841) (tgt := 874) (by decide +kernel) (by rw [cw279]; decide) (by rw [cw279]; decide) (by rw [cw279]; rfl) (by decide) ?_
      refine q_blk2 (pc2 := 879) (ls2 := [(0, .ref 0), (1, .ref 1), (2, .ref 128), (3, .int l3)]) (st2 := [.int (l3 + 1), .ref 0, .ref 1]) (h2 := (q_K0, z.1, z.2, q_R0)) [(.aload_n 1, 0, 0, 0, 0, 0), (.aload_n 0, 0, 0, 0, 0, 0), (.iload_n 3, 0, 0, 0, 0, 0), (.iconst 1, 0, 0, 0, 1, 0), (.iadd, 0, 0, 0, 0, 0)] (by decide +kernel) rfl rfl ⟨trivial, trivial, trivial, trivial, trivial, trivial⟩ ?_
      have b176 : 0 ≤ Int32.toInt (l3 + 1) ∧ Int32.toInt (l3 + 1) < xL := by
        by_cases q : 0 ≤ Int32.toInt (l3 + 1) ∧ Int32.toInt (l3 + 1) < xL
        · exact q
        · rw [if_neg q] at h; cases h
      rw [if_pos b176] at h
      refine q_sld rfl (vp_in_iff.mpr b176) (by decide +kernel) ?_
      obtain ⟨⟨r177, z178⟩, hc280, h⟩ := Option.bind_eq_some_iff.mp h
      dsimp only at h
      refine q_cV1 (idx := 120) (v := .int r177) (h1 := (q_K0, z178.1, z178.2, q_R0)) [.int (xs (Int32.toNatClampNeg (l3 + 1))), .ref 1] 84 1 8 [.int (xs (Int32.toNatClampNeg (l3 + 1)))] [] rfl (by decide +kernel) (by decide +kernel) rfl (Nat.le_of_ble_eq_true rfl) rfl (by decide) (by decide +kernel) (by decide +kernel) (s_X9_squares hc280) ?_
      refine q_blk2 (pc2 := 888) (ls2 := [(0, .ref 0), (1, .ref 1), (2, .ref 128), (3, .int l3)]) (st2 := [.int (l3 + 1), .ref 0, .ref 128, .int r177]) (h2 := (q_K0, z178.1, z178.2, q_R0)) [(.aload_n 2, 0, 0, 0, 0, 0), (.aload_n 0, 0, 0, 0, 0, 0), (.iload_n 3, 0, 0, 0, 0, 0), (.iconst 1, 0, 0, 0, 1, 0), (.iadd, 0, 0, 0, 0, 0)] (by decide +kernel) rfl rfl ⟨trivial, trivial, trivial, trivial, trivial, trivial⟩ ?_
      have b179 : 0 ≤ Int32.toInt (l3 + 1) ∧ Int32.toInt (l3 + 1) < xL := by
        by_cases q : 0 ≤ Int32.toInt (l3 + 1) ∧ Int32.toInt (l3 + 1) < xL
        · exact q
        · rw [if_neg q] at h; cases h
      rw [if_pos b179] at h
      refine q_sld rfl (vp_in_iff.mpr b179) (by decide +kernel) ?_
      obtain ⟨⟨r180, z181⟩, hc281, h⟩ := Option.bind_eq_some_iff.mp h
      dsimp only at h
      refine q_cV1 (idx := 123) (v := .int r180) (h1 := (q_K0, z181.1, z181.2, q_R0)) [.int (xs (Int32.toNatClampNeg (l3 + 1))), .ref 128, .int r177] 153 128 9 [.int (xs (Int32.toNatClampNeg (l3 + 1)))] [.int r177] rfl (by decide +kernel) (by decide +kernel) rfl (Nat.le_of_ble_eq_true rfl) rfl (by decide) (by decide +kernel) (by decide +kernel) (s_X10_squares hc281) ?_
      refine q_ic_eq (off := 103) (tgt := 995) (by decide +kernel) (by decide) (fun c892_27 => ?_) (fun c892_27 => ?_)
      · rw [if_pos c892_27] at h
        refine q_pick [0, 1, 2, 3] rfl ?_
        exact t_L_law_995 h k0 k1
      · rw [if_neg c892_27] at h
        cases h
    rw [if_neg cw279] at h
    by_cases cw282 : (xs (Int32.toNatClampNeg l3)) &&& 31 = (26 : Int32)
    · rw [if_pos cw282] at h
      refine q_tabI (dflt := 962) (lo := 0) (hi := 29) (offs := #[135, 158, 191, 224, 247, 270, 293, 317, 340, 363, 438, 451, 484, 497, 530, 553, 576, 599, 622, 635, 659, 682, 715, 775, 808, 841, 864, 913, 926, 949]) (len := 135) (off := 864) (tgt := 897) (by decide +kernel) (by rw [cw282]; decide) (by rw [cw282]; decide) (by rw [cw282]; rfl) (by decide) ?_
      refine q_blk2 (pc2 := 902) (ls2 := [(0, .ref 0), (1, .ref 1), (2, .ref 128), (3, .int l3)]) (st2 := [.int (l3 + 1), .ref 0, .ref 1]) (h2 := (q_K0, z.1, z.2, q_R0)) [(.aload_n 1, 0, 0, 0, 0, 0), (.aload_n 0, 0, 0, 0, 0, 0), (.iload_n 3, 0, 0, 0, 0, 0), (.iconst 1, 0, 0, 0, 1, 0), (.iadd, 0, 0, 0, 0, 0)] (by decide +kernel) rfl rfl ⟨trivial, trivial, trivial, trivial, trivial, trivial⟩ ?_
      have b182 : 0 ≤ Int32.toInt (l3 + 1) ∧ Int32.toInt (l3 + 1) < xL := by
        by_cases q : 0 ≤ Int32.toInt (l3 + 1) ∧ Int32.toInt (l3 + 1) < xL
        · exact q
        · rw [if_neg q] at h; cases h
      rw [if_pos b182] at h
      refine q_sld rfl (vp_in_iff.mpr b182) (by decide +kernel) ?_
      refine q_blk2 (pc2 := 907) (ls2 := [(0, .ref 0), (1, .ref 1), (2, .ref 128), (3, .int l3)]) (st2 := [.int (l3 + 2), .ref 0, .int (xs (Int32.toNatClampNeg (l3 + 1))), .ref 1]) (h2 := (q_K0, z.1, z.2, q_R0)) [(.aload_n 0, 0, 0, 0, 0, 0), (.iload_n 3, 0, 0, 0, 0, 0), (.iconst 2, 0, 0, 0, 2, 0), (.iadd, 0, 0, 0, 0, 0)] (by decide +kernel) rfl rfl ⟨trivial, trivial, trivial, trivial, trivial⟩ ?_
      have b183 : 0 ≤ Int32.toInt (l3 + 2) ∧ Int32.toInt (l3 + 2) < xL := by
        by_cases q : 0 ≤ Int32.toInt (l3 + 2) ∧ Int32.toInt (l3 + 2) < xL
        · exact q
        · rw [if_neg q] at h; cases h
      rw [if_pos b183] at h
      refine q_sld rfl (vp_in_iff.mpr b183) (by decide +kernel) ?_
      refine q_if_eq (off := 7) (tgt := 915) (by decide +kernel) (by decide) (fun c908_28 => ?_) (fun c908_28 => ?_)
      · rw [if_pos c908_28] at h
        refine q_blk2 (pc2 := 916) (ls2 := [(0, .ref 0), (1, .ref 1), (2, .ref 128), (3, .int l3)]) (st2 := [.int 0, .int (xs (Int32.toNatClampNeg (l3 + 1))), .ref 1]) (h2 := (q_K0, z.1, z.2, q_R0)) [(.iconst 0, 0, 0, 0, 0, 0)] (by decide +kernel) rfl rfl ⟨trivial, trivial⟩ ?_
        refine q_pick [0, 1, 2, 3] rfl ?_
        exact t_L_law_916 h k0 k1
      · rw [if_neg c908_28] at h
        refine q_blk2 (pc2 := 912) (ls2 := [(0, .ref 0), (1, .ref 1), (2, .ref 128), (3, .int l3)]) (st2 := [.int 1, .int (xs (Int32.toNatClampNeg (l3 + 1))), .ref 1]) (h2 := (q_K0, z.1, z.2, q_R0)) [(.iconst 1, 0, 0, 0, 1, 0)] (by decide +kernel) rfl rfl ⟨trivial, trivial⟩ ?_
        refine q_goto (off := 4) (tgt := 916) (by decide +kernel) (by decide) ?_
        refine q_pick [0, 1, 2, 3] rfl ?_
        exact t_L_law_916 h k0 k1
    rw [if_neg cw282] at h
    by_cases cw283 : (xs (Int32.toNatClampNeg l3)) &&& 31 = (27 : Int32)
    · rw [if_pos cw283] at h
      refine q_tabI (dflt := 962) (lo := 0) (hi := 29) (offs := #[135, 158, 191, 224, 247, 270, 293, 317, 340, 363, 438, 451, 484, 497, 530, 553, 576, 599, 622, 635, 659, 682, 715, 775, 808, 841, 864, 913, 926, 949]) (len := 135) (off := 913) (tgt := 946) (by decide +kernel) (by rw [cw283]; decide) (by rw [cw283]; decide) (by rw [cw283]; rfl) (by decide) ?_
      refine q_blk2 (pc2 := 947) (ls2 := [(0, .ref 0), (1, .ref 1), (2, .ref 128), (3, .int l3)]) (st2 := [.ref 1]) (h2 := (q_K0, z.1, z.2, q_R0)) [(.aload_n 1, 0, 0, 0, 0, 0)] (by decide +kernel) rfl rfl ⟨trivial, trivial⟩ ?_
      obtain ⟨⟨r192, z193⟩, hc284, h⟩ := Option.bind_eq_some_iff.mp h
      dsimp only at h
      refine q_cV1 (idx := 129) (v := .int r192) (h1 := (q_K0, z193.1, z193.2, q_R0)) [.ref 1] 86 1 8 [] [] rfl (by decide +kernel) (by decide +kernel) rfl (Nat.le_of_ble_eq_true rfl) rfl (by decide) (by decide +kernel) (by decide +kernel) (s_X9_undo hc284) ?_
      refine q_blk2 (pc2 := 951) (ls2 := [(0, .ref 0), (1, .ref 1), (2, .ref 128), (3, .int l3)]) (st2 := [.ref 128, .int r192]) (h2 := (q_K0, z193.1, z193.2, q_R0)) [(.aload_n 2, 0, 0, 0, 0, 0)] (by decide +kernel) rfl rfl ⟨trivial, trivial⟩ ?_
      obtain ⟨⟨r194, z195⟩, hc285, h⟩ := Option.bind_eq_some_iff.mp h
      dsimp only at h
      refine q_cV1 (idx := 132) (v := .int r194) (h1 := (q_K0, z195.1, z195.2, q_R0)) [.ref 128, .int r192] 115 128 9 [] [.int r192] rfl (by decide +kernel) (by decide +kernel) rfl (Nat.le_of_ble_eq_true rfl) rfl (by decide) (by decide +kernel) (by decide +kernel) (s_X10_undo hc285) ?_
      refine q_ic_eq (off := 41) (tgt := 995) (by decide +kernel) (by decide) (fun c954_29 => ?_) (fun c954_29 => ?_)
      · rw [if_pos c954_29] at h
        refine q_pick [0, 1, 2, 3] rfl ?_
        exact t_L_law_995 h k0 k1
      · rw [if_neg c954_29] at h
        cases h
    rw [if_neg cw283] at h
    by_cases cw286 : (xs (Int32.toNatClampNeg l3)) &&& 31 = (28 : Int32)
    · rw [if_pos cw286] at h
      refine q_tabI (dflt := 962) (lo := 0) (hi := 29) (offs := #[135, 158, 191, 224, 247, 270, 293, 317, 340, 363, 438, 451, 484, 497, 530, 553, 576, 599, 622, 635, 659, 682, 715, 775, 808, 841, 864, 913, 926, 949]) (len := 135) (off := 926) (tgt := 959) (by decide +kernel) (by rw [cw286]; decide) (by rw [cw286]; decide) (by rw [cw286]; rfl) (by decide) ?_
      refine q_blk2 (pc2 := 964) (ls2 := [(0, .ref 0), (1, .ref 1), (2, .ref 128), (3, .int l3)]) (st2 := [.int (l3 + 1), .ref 0, .ref 1]) (h2 := (q_K0, z.1, z.2, q_R0)) [(.aload_n 1, 0, 0, 0, 0, 0), (.aload_n 0, 0, 0, 0, 0, 0), (.iload_n 3, 0, 0, 0, 0, 0), (.iconst 1, 0, 0, 0, 1, 0), (.iadd, 0, 0, 0, 0, 0)] (by decide +kernel) rfl rfl ⟨trivial, trivial, trivial, trivial, trivial, trivial⟩ ?_
      have b196 : 0 ≤ Int32.toInt (l3 + 1) ∧ Int32.toInt (l3 + 1) < xL := by
        by_cases q : 0 ≤ Int32.toInt (l3 + 1) ∧ Int32.toInt (l3 + 1) < xL
        · exact q
        · rw [if_neg q] at h; cases h
      rw [if_pos b196] at h
      refine q_sld rfl (vp_in_iff.mpr b196) (by decide +kernel) ?_
      obtain ⟨⟨r197, z198⟩, hc287, h⟩ := Option.bind_eq_some_iff.mp h
      dsimp only at h
      refine q_cV1 (idx := 133) (v := .int r197) (h1 := (q_K0, z198.1, z198.2, q_R0)) [.int (xs (Int32.toNatClampNeg (l3 + 1))), .ref 1] 87 1 8 [.int (xs (Int32.toNatClampNeg (l3 + 1)))] [] rfl (by decide +kernel) (by decide +kernel) rfl (Nat.le_of_ble_eq_true rfl) rfl (by decide) (by decide +kernel) (by decide +kernel) (s_X9_size hc287) ?_
      refine q_blk2 (pc2 := 973) (ls2 := [(0, .ref 0), (1, .ref 1), (2, .ref 128), (3, .int l3)]) (st2 := [.int (l3 + 1), .ref 0, .ref 128, .int r197]) (h2 := (q_K0, z198.1, z198.2, q_R0)) [(.aload_n 2, 0, 0, 0, 0, 0), (.aload_n 0, 0, 0, 0, 0, 0), (.iload_n 3, 0, 0, 0, 0, 0), (.iconst 1, 0, 0, 0, 1, 0), (.iadd, 0, 0, 0, 0, 0)] (by decide +kernel) rfl rfl ⟨trivial, trivial, trivial, trivial, trivial, trivial⟩ ?_
      have b199 : 0 ≤ Int32.toInt (l3 + 1) ∧ Int32.toInt (l3 + 1) < xL := by
        by_cases q : 0 ≤ Int32.toInt (l3 + 1) ∧ Int32.toInt (l3 + 1) < xL
        · exact q
        · rw [if_neg q] at h; cases h
      rw [if_pos b199] at h
      refine q_sld rfl (vp_in_iff.mpr b199) (by decide +kernel) ?_
      obtain ⟨⟨r200, z201⟩, hc288, h⟩ := Option.bind_eq_some_iff.mp h
      dsimp only at h
      refine q_cV1 (idx := 136) (v := .int r200) (h1 := (q_K0, z201.1, z201.2, q_R0)) [.int (xs (Int32.toNatClampNeg (l3 + 1))), .ref 128, .int r197] 155 128 9 [.int (xs (Int32.toNatClampNeg (l3 + 1)))] [.int r197] rfl (by decide +kernel) (by decide +kernel) rfl (Nat.le_of_ble_eq_true rfl) rfl (by decide) (by decide +kernel) (by decide +kernel) (s_X10_size hc288) ?_
      refine q_ic_eq (off := 18) (tgt := 995) (by decide +kernel) (by decide) (fun c977_30 => ?_) (fun c977_30 => ?_)
      · rw [if_pos c977_30] at h
        refine q_pick [0, 1, 2, 3] rfl ?_
        exact t_L_law_995 h k0 k1
      · rw [if_neg c977_30] at h
        cases h
    rw [if_neg cw286] at h
    by_cases cw289 : (xs (Int32.toNatClampNeg l3)) &&& 31 = (29 : Int32)
    · rw [if_pos cw289] at h
      refine q_tabI (dflt := 962) (lo := 0) (hi := 29) (offs := #[135, 158, 191, 224, 247, 270, 293, 317, 340, 363, 438, 451, 484, 497, 530, 553, 576, 599, 622, 635, 659, 682, 715, 775, 808, 841, 864, 913, 926, 949]) (len := 135) (off := 949) (tgt := 982) (by decide +kernel) (by rw [cw289]; decide) (by rw [cw289]; decide) (by rw [cw289]; rfl) (by decide) ?_
      refine q_blk2 (pc2 := 983) (ls2 := [(0, .ref 0), (1, .ref 1), (2, .ref 128), (3, .int l3)]) (st2 := [.ref 1]) (h2 := (q_K0, z.1, z.2, q_R0)) [(.aload_n 1, 0, 0, 0, 0, 0)] (by decide +kernel) rfl rfl ⟨trivial, trivial⟩ ?_
      obtain ⟨⟨r202, z203⟩, hc290, h⟩ := Option.bind_eq_some_iff.mp h
      dsimp only at h
      refine q_cV1 (idx := 137) (v := .int r202) (h1 := (q_K0, z203.1, z203.2, q_R0)) [.ref 1] 88 1 8 [] [] rfl (by decide +kernel) (by decide +kernel) rfl (Nat.le_of_ble_eq_true rfl) rfl (by decide) (by decide +kernel) (by decide +kernel) (s_X9_trouble hc290) ?_
      refine q_blk2 (pc2 := 987) (ls2 := [(0, .ref 0), (1, .ref 1), (2, .ref 128), (3, .int l3)]) (st2 := [.ref 128, .int r202]) (h2 := (q_K0, z203.1, z203.2, q_R0)) [(.aload_n 2, 0, 0, 0, 0, 0)] (by decide +kernel) rfl rfl ⟨trivial, trivial⟩ ?_
      obtain ⟨⟨r204, z205⟩, hc291, h⟩ := Option.bind_eq_some_iff.mp h
      dsimp only at h
      refine q_cV1 (idx := 140) (v := .int r204) (h1 := (q_K0, z205.1, z205.2, q_R0)) [.ref 128, .int r202] 156 128 9 [] [.int r202] rfl (by decide +kernel) (by decide +kernel) rfl (Nat.le_of_ble_eq_true rfl) rfl (by decide) (by decide +kernel) (by decide +kernel) (s_X10_trouble hc291) ?_
      refine q_ic_eq (off := 5) (tgt := 995) (by decide +kernel) (by decide) (fun c990_31 => ?_) (fun c990_31 => ?_)
      · rw [if_pos c990_31] at h
        refine q_pick [0, 1, 2, 3] rfl ?_
        exact t_L_law_995 h k0 k1
      · rw [if_neg c990_31] at h
        cases h
    rw [if_neg cw289] at h
    have e_cw206 : Int32.toInt ((xs (Int32.toNatClampNeg l3)) &&& 31) ≠ 0 := q_neI cw206
    have e_cw209 : Int32.toInt ((xs (Int32.toNatClampNeg l3)) &&& 31) ≠ 1 := q_neI cw209
    have e_cw212 : Int32.toInt ((xs (Int32.toNatClampNeg l3)) &&& 31) ≠ 2 := q_neI cw212
    have e_cw215 : Int32.toInt ((xs (Int32.toNatClampNeg l3)) &&& 31) ≠ 3 := q_neI cw215
    have e_cw218 : Int32.toInt ((xs (Int32.toNatClampNeg l3)) &&& 31) ≠ 4 := q_neI cw218
    have e_cw221 : Int32.toInt ((xs (Int32.toNatClampNeg l3)) &&& 31) ≠ 5 := q_neI cw221
    have e_cw224 : Int32.toInt ((xs (Int32.toNatClampNeg l3)) &&& 31) ≠ 6 := q_neI cw224
    have e_cw227 : Int32.toInt ((xs (Int32.toNatClampNeg l3)) &&& 31) ≠ 7 := q_neI cw227
    have e_cw230 : Int32.toInt ((xs (Int32.toNatClampNeg l3)) &&& 31) ≠ 8 := q_neI cw230
    have e_cw233 : Int32.toInt ((xs (Int32.toNatClampNeg l3)) &&& 31) ≠ 9 := q_neI cw233
    have e_cw236 : Int32.toInt ((xs (Int32.toNatClampNeg l3)) &&& 31) ≠ 10 := q_neI cw236
    have e_cw239 : Int32.toInt ((xs (Int32.toNatClampNeg l3)) &&& 31) ≠ 11 := q_neI cw239
    have e_cw242 : Int32.toInt ((xs (Int32.toNatClampNeg l3)) &&& 31) ≠ 12 := q_neI cw242
    have e_cw245 : Int32.toInt ((xs (Int32.toNatClampNeg l3)) &&& 31) ≠ 13 := q_neI cw245
    have e_cw248 : Int32.toInt ((xs (Int32.toNatClampNeg l3)) &&& 31) ≠ 14 := q_neI cw248
    have e_cw251 : Int32.toInt ((xs (Int32.toNatClampNeg l3)) &&& 31) ≠ 15 := q_neI cw251
    have e_cw254 : Int32.toInt ((xs (Int32.toNatClampNeg l3)) &&& 31) ≠ 16 := q_neI cw254
    have e_cw257 : Int32.toInt ((xs (Int32.toNatClampNeg l3)) &&& 31) ≠ 17 := q_neI cw257
    have e_cw260 : Int32.toInt ((xs (Int32.toNatClampNeg l3)) &&& 31) ≠ 18 := q_neI cw260
    have e_cw263 : Int32.toInt ((xs (Int32.toNatClampNeg l3)) &&& 31) ≠ 19 := q_neI cw263
    have e_cw266 : Int32.toInt ((xs (Int32.toNatClampNeg l3)) &&& 31) ≠ 20 := q_neI cw266
    have e_cw269 : Int32.toInt ((xs (Int32.toNatClampNeg l3)) &&& 31) ≠ 21 := q_neI cw269
    have e_cw272 : Int32.toInt ((xs (Int32.toNatClampNeg l3)) &&& 31) ≠ 22 := q_neI cw272
    have e_cw273 : Int32.toInt ((xs (Int32.toNatClampNeg l3)) &&& 31) ≠ 23 := q_neI cw273
    have e_cw276 : Int32.toInt ((xs (Int32.toNatClampNeg l3)) &&& 31) ≠ 24 := q_neI cw276
    have e_cw279 : Int32.toInt ((xs (Int32.toNatClampNeg l3)) &&& 31) ≠ 25 := q_neI cw279
    have e_cw282 : Int32.toInt ((xs (Int32.toNatClampNeg l3)) &&& 31) ≠ 26 := q_neI cw282
    have e_cw283 : Int32.toInt ((xs (Int32.toNatClampNeg l3)) &&& 31) ≠ 27 := q_neI cw283
    have e_cw286 : Int32.toInt ((xs (Int32.toNatClampNeg l3)) &&& 31) ≠ 28 := q_neI cw286
    have e_cw289 : Int32.toInt ((xs (Int32.toNatClampNeg l3)) &&& 31) ≠ 29 := q_neI cw289
    refine q_tabO (dflt := 962) (lo := 0) (hi := 29) (offs := #[135, 158, 191, 224, 247, 270, 293, 317, 340, 363, 438, 451, 484, 497, 530, 553, 576, 599, 622, 635, 659, 682, 715, 775, 808, 841, 864, 913, 926, 949]) (len := 135) (tgt := 995) (by decide +kernel) (by omega) (by decide) ?_
    refine q_pick [0, 1, 2, 3] rfl ?_
    exact t_L_law_995 h k0 k1
set_option maxRecDepth 100000 in
set_option maxHeartbeats 4000000 in
theorem q_law_of (L : Nat) (xs : Nat → Int32) {z0 z2 : q_Z} {l3 : Int32} (hB : F_X10_becomes (q_Ih, q_Lm) (-4) = some ((), z0)) (hl : q_lp (B_L_law_18 L xs) q_fu (0, z0) = some ((l3, z2), 0)) : ∃ h2 : q_H, q_Ex (some (L, xs)) j_L_law 0 [(0, .ref 0)] [] ([], fun _ _ => 0, fun _ _ => 0, fun _ _ => none) (some (.int 1)) h2 ∧ h2.1.length ≤ 600000 ∧ q_sl h2 ≤ 7302250 := by
  refine ⟨(q_K0, z2.1, z2.2, q_R0), ?_, by show q_K0.length ≤ 600000; decide +kernel, by show (q_K0.map q_sz).sum ≤ 7302250; decide +kernel⟩
  show q_Ex (some (L, xs)) 163 0 [(0, .ref 0)] [] (q_K0.take 0, (fun _ _ => 0), (fun _ _ => 0), (fun _ _ => none)) _ _
  refine q_new2 0 8 (idx := 7) rfl (by decide) (fun _ => rfl) (fun _ => rfl) (fun _ => rfl) (by decide +kernel) (by decide +kernel) ?_
  refine q_blk2 (pc2 := 4) (ls2 := [(0, .ref 0)]) (st2 := [.ref 1, .ref 1]) (h2 := (q_K0.take 1, (fun _ _ => 0), (fun _ _ => 0), (fun _ _ => none))) [(.dup, 0, 0, 0, 0, 0)] (by decide +kernel) rfl rfl ⟨trivial, trivial⟩ ?_
  refine q_callI (idx := 9) (h1 := (q_K0.take 127, q_Ih, q_Lh, q_Rh)) 58 1 2 [] (by decide +kernel) (by decide) (by decide +kernel) rfl (Nat.le_of_ble_eq_true rfl) (by decide +kernel) (n_X9_init (fun n h k => rfl) (fun n h k => rfl) (fun n h k => rfl)) ?_
  refine q_blk2 (pc2 := 8) (ls2 := [(1, .ref 1), (0, .ref 0)]) (st2 := []) (h2 := (q_K0.take 127, q_Ih, q_Lh, q_Rh)) [(.astore_n 1, 0, 0, 0, 0, 0)] (by decide +kernel) rfl rfl ⟨trivial, trivial⟩ ?_
  refine q_new2 127 9 (idx := 10) rfl (by decide) (fun _ => rfl) (fun _ => rfl) (fun _ => rfl) (by decide +kernel) (by decide +kernel) ?_
  refine q_blk2 (pc2 := 12) (ls2 := [(1, .ref 1), (0, .ref 0)]) (st2 := [.ref 128, .ref 128]) (h2 := (q_K0.take 128, q_Ih, q_Lh, q_Rh)) [(.dup, 0, 0, 0, 0, 0)] (by decide +kernel) rfl rfl ⟨trivial, trivial⟩ ?_
  refine q_callI (idx := 12) (h1 := (q_K0, z0.1, z0.2, q_R0)) 97 128 2 [] (by decide +kernel) (by decide) (by decide +kernel) rfl (Nat.le_of_ble_eq_true rfl) (by decide +kernel) (n_X10_init hB) ?_
  refine q_blk2 (pc2 := 18) (ls2 := [(3, .int 0), (2, .ref 128), (1, .ref 1), (0, .ref 0)]) (st2 := []) (h2 := (q_K0, z0.1, z0.2, q_R0)) [(.astore_n 2, 0, 0, 0, 0, 0), (.iconst 0, 0, 0, 0, 0, 0), (.istore_n 3, 0, 0, 0, 0, 0)] (by decide +kernel) rfl rfl ⟨trivial, trivial, trivial, trivial⟩ ?_
  refine q_pick [3, 2, 1, 0] rfl ?_
  refine q_lp_ok (P := fun s => q_Ex (some (L, xs)) 163 18 [(0, .ref 0), (1, .ref 1), (2, .ref 128), (3, .int s.1)] [] (q_K0, s.2.1, s.2.2, q_R0) _ _) (X := fun u s => u = 0 → q_Ex (some (L, xs)) 163 1001 [(0, .ref 0), (1, .ref 1), (2, .ref 128), (3, .int s.1)] [] (q_K0, s.2.1, s.2.2, q_R0) _ _) (fun s s2 t hh k0 kx => b_L_law_18 hh k0 (fun e => kx 0 e rfl)) hl ?_
  intro _
  show q_Ex (some (L, xs)) 163 1001 [(0, .ref 0), (1, .ref 1), (2, .ref 128), (3, .int l3)] [] (q_K0, z2.1, z2.2, q_R0) _ _
  refine q_blk2 (pc2 := 1002) (ls2 := [(0, .ref 0), (1, .ref 1), (2, .ref 128), (3, .int l3)]) (st2 := [.int 1]) (h2 := (q_K0, z2.1, z2.2, q_R0)) [(.iconst 1, 0, 0, 0, 1, 0)] (by decide +kernel) rfl rfl ⟨trivial, trivial⟩ ?_
  exact q_iret .boolean rfl rfl (by decide +kernel)
