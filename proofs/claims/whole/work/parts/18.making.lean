/-! the making of both objects (written by wip/whole/gen18.py) -/
theorem q_al2 {I : Nat → Nat → Int32} {L : Nat → Nat → Int64} {R : Nat → Nat → Option Nat} {x : q_Kd} (m : Nat) (hx : q_K0[m]? = some x) (hI : ∀ k, I (m + 1) k = 0) (hL : ∀ k, L (m + 1) k = 0) (hR : ∀ k, R (m + 1) k = none) : q_al (q_K0.take m, I, L, R) x = (q_K0.take (m + 1), I, L, R) ∧ (q_K0.take m).length + 1 = m + 1 := by
  have hm : m < q_K0.length := (List.getElem?_eq_some_iff.mp hx).1
  have hl : (q_K0.take m).length = m := by rw [List.length_take]; omega
  refine ⟨?_, by rw [hl]⟩
  have e0 : q_K0.take m ++ [x] = q_K0.take (m + 1) := by
    rw [List.take_succ, hx]
    rfl
  have e1 : q_zz I (m + 1) 0 = I := by
    funext a c
    by_cases e : a = m + 1
    · subst e; simp [q_zz, hI]
    · simp [q_zz, e]
  have e2 : q_zz L (m + 1) 0 = L := by
    funext a c
    by_cases e : a = m + 1
    · subst e; simp [q_zz, hL]
    · simp [q_zz, e]
  have e3 : q_zz R (m + 1) none = R := by
    funext a c
    by_cases e : a = m + 1
    · subst e; simp [q_zz, hR]
    · simp [q_zz, e]
  simp only [q_al, hl, e0, e1, e2, e3]
theorem q_new2 {sc : Option (Nat × (Nat → Int32))} {i pc : Nat} {ls : List (Nat × Value)} {st : List Value} {I : Nat → Nat → Int32} {L : Nat → Nat → Int64} {R : Nat → Nat → Option Nat} {h2 : q_H} {r : Option Value} {idx : Nat} (m ci : Nat) (hx : q_K0[m]? = some (.inl ci)) (hm : m < 142) (hI : ∀ k, I (m + 1) k = 0) (hL : ∀ k, L (m + 1) k = 0) (hR : ∀ k, R (m + 1) k = none) (hn : q_nw (q_mC i) idx ci = true) (hd : decode (q_cB i) pc = .ok (.new idx, 3)) (E : q_Ex sc i (pc + 3) ls (.ref (m + 1) :: st) (q_K0.take (m + 1), I, L, R) r h2) : q_Ex sc i pc ls st (q_K0.take m, I, L, R) r h2 := by
  obtain ⟨e1, e2⟩ := q_al2 m hx hI hL hR
  refine q_x_new ci hn hd ?_
  rw [e1]
  show q_Ex sc i (pc + 3) ls (.ref ((q_K0.take m).length + 1) :: st) _ r h2
  rw [e2]
  exact E
theorem q_newi2 {sc : Option (Nat × (Nat → Int32))} {i pc : Nat} {ls : List (Nat × Value)} {st : List Value} {I : Nat → Nat → Int32} {L : Nat → Nat → Int64} {R : Nat → Nat → Option Nat} {h2 : q_H} {r : Option Value} {n : Int32} (m N : Nat) (hx : q_K0[m]? = some (.inr (0, N))) (hm : m < 142) (hn : ¬ n < 0) (hN : n.toNatClampNeg = N) (hNb : N ≤ 100000) (hI : ∀ k, I (m + 1) k = 0) (hL : ∀ k, L (m + 1) k = 0) (hR : ∀ k, R (m + 1) k = none) (hd : decode (q_cB i) pc = .ok (.newarray .int, 2)) (E : q_Ex sc i (pc + 2) ls (.ref (m + 1) :: st) (q_K0.take (m + 1), I, L, R) r h2) : q_Ex sc i pc ls (.int n :: st) (q_K0.take m, I, L, R) r h2 := by
  obtain ⟨e1, e2⟩ := q_al2 m hx hI hL hR
  refine q_x_newi N hn hN hNb hd ?_
  rw [e1]
  show q_Ex sc i (pc + 2) ls (.ref ((q_K0.take m).length + 1) :: st) _ r h2
  rw [e2]
  exact E
theorem q_newl2 {sc : Option (Nat × (Nat → Int32))} {i pc : Nat} {ls : List (Nat × Value)} {st : List Value} {I : Nat → Nat → Int32} {L : Nat → Nat → Int64} {R : Nat → Nat → Option Nat} {h2 : q_H} {r : Option Value} {n : Int32} (m N : Nat) (hx : q_K0[m]? = some (.inr (1, N))) (hm : m < 142) (hn : ¬ n < 0) (hN : n.toNatClampNeg = N) (hNb : N ≤ 100000) (hI : ∀ k, I (m + 1) k = 0) (hL : ∀ k, L (m + 1) k = 0) (hR : ∀ k, R (m + 1) k = none) (hd : decode (q_cB i) pc = .ok (.newarray .long, 2)) (E : q_Ex sc i (pc + 2) ls (.ref (m + 1) :: st) (q_K0.take (m + 1), I, L, R) r h2) : q_Ex sc i pc ls (.int n :: st) (q_K0.take m, I, L, R) r h2 := by
  obtain ⟨e1, e2⟩ := q_al2 m hx hI hL hR
  refine q_x_newl N hn hN hNb hd ?_
  rw [e1]
  show q_Ex sc i (pc + 2) ls (.ref ((q_K0.take m).length + 1) :: st) _ r h2
  rw [e2]
  exact E
theorem q_newq2 {sc : Option (Nat × (Nat → Int32))} {i pc : Nat} {ls : List (Nat × Value)} {st : List Value} {I : Nat → Nat → Int32} {L : Nat → Nat → Int64} {R : Nat → Nat → Option Nat} {h2 : q_H} {r : Option Value} {n : Int32} {idx : Nat} (m N : Nat) (hx : q_K0[m]? = some (.inr (2, N))) (hm : m < 142) (hw : q_nw (q_mC i) idx 1 = true) (hn : ¬ n < 0) (hN : n.toNatClampNeg = N) (hNb : N ≤ 100000) (hI : ∀ k, I (m + 1) k = 0) (hL : ∀ k, L (m + 1) k = 0) (hR : ∀ k, R (m + 1) k = none) (hd : decode (q_cB i) pc = .ok (.anewarray idx, 3)) (E : q_Ex sc i (pc + 3) ls (.ref (m + 1) :: st) (q_K0.take (m + 1), I, L, R) r h2) : q_Ex sc i pc ls (.int n :: st) (q_K0.take m, I, L, R) r h2 := by
  obtain ⟨e1, e2⟩ := q_al2 m hx hI hL hR
  refine q_x_newq N hw hn hN hNb hd ?_
  rw [e1]
  show q_Ex sc i (pc + 3) ls (.ref ((q_K0.take m).length + 1) :: st) _ r h2
  rw [e2]
  exact E
def q_fl (R : Nat → Nat → Option Nat) (a base i : Nat) : Nat → Nat → Option Nat := fun n k => if n = a then (if k < i then some (base + k) else R n k) else R n k
theorem q_clu {α : Type} {N o j : Nat} {f : Nat → Nat → α} {d v : α} (ho : o ≤ N) (h : ∀ n, N < n → ∀ k, f n k = d) : ∀ n, N < n → ∀ k, q_u2 f o j v n k = d := by
  intro n hn k
  have e : ¬ n = o := by omega
  simp only [q_u2, if_neg e]
  exact h n hn k
theorem q_clf {N a b i : Nat} {f : Nat → Nat → Option Nat} {d : Option Nat} (ho : a ≤ N) (h : ∀ n, N < n → ∀ k, f n k = d) : ∀ n, N < n → ∀ k, q_fl f a b i n k = d := by
  intro n hn k
  have e : ¬ n = a := by omega
  simp only [q_fl, if_neg e]
  exact h n hn k
theorem q_clx {α : Type} {N : Nat} {f : Nat → Nat → α} {d : α} (n : Nat) (h : ∀ n, N < n → ∀ k, f n k = d) (hn : N < n := by decide) : ∀ k, f n k = d := h n hn
theorem n_X1_init {h : q_H} {n : Nat} : q_Ca 11 [.ref n] h none h := by
  refine q_Ca_of (by decide) (Nat.le_of_ble_eq_true rfl) ?_
  show q_Ex none 11 0 [(0, .ref n)] [] h _ _
  refine q_blk2 (pc2 := 1) (ls2 := [(0, .ref n)]) (st2 := [.ref n]) (h2 := h) [(.aload_n 0, 0, 0, 0, 0, 0)] (by decide +kernel) rfl rfl ⟨trivial, trivial⟩ ?_
  refine q_objI (idx := 1) (by decide +kernel) (by decide +kernel) (by decide +kernel) ?_
  exact q_vret rfl (by decide +kernel)
theorem n_X5_init {h : q_H} {n : Nat} : q_Ca 36 [.ref n] h none h := by
  refine q_Ca_of (by decide) (Nat.le_of_ble_eq_true rfl) ?_
  show q_Ex none 36 0 [(0, .ref n)] [] h _ _
  refine q_blk2 (pc2 := 1) (ls2 := [(0, .ref n)]) (st2 := [.ref n]) (h2 := h) [(.aload_n 0, 0, 0, 0, 0, 0)] (by decide +kernel) rfl rfl ⟨trivial, trivial⟩ ?_
  refine q_objI (idx := 3) (by decide +kernel) (by decide +kernel) (by decide +kernel) ?_
  exact q_vret rfl (by decide +kernel)
theorem n_X2_init {K : List q_Kd} {I : Nat → Nat → Int32} {L : Nat → Nat → Int64} {R : Nat → Nat → Option Nat} {n : Nat} (hk : q_kd (K, I, L, R) n = some (.inl 2)) : q_Ca 16 [.ref n] (K, I, L, R) none (K, q_u2 I n 0 (-4), L, R) := by
  refine q_Ca_of (by decide) (Nat.le_of_ble_eq_true rfl) ?_
  show q_Ex none 16 0 [(0, .ref n)] [] (K, I, L, R) _ _
  refine q_blk2 (pc2 := 1) (ls2 := [(0, .ref n)]) (st2 := [.ref n]) (h2 := (K, I, L, R)) [(.aload_n 0, 0, 0, 0, 0, 0)] (by decide +kernel) rfl rfl ⟨trivial, trivial⟩ ?_
  refine q_objI (idx := 3) (by decide +kernel) (by decide +kernel) (by decide +kernel) ?_
  refine q_blk2 (pc2 := 10) (ls2 := [(0, .ref n)]) (st2 := []) (h2 := (K, q_u2 I n 0 (-4), L, R)) [(.aload_n 0, 0, 0, 0, 0, 0), (.bipush (-4), 0, 0, 0, (-4), 0), (.putfield 9, 0, 2, 0, 0, 0)] (by decide +kernel) rfl rfl ⟨trivial, trivial, ⟨hk, rfl, rfl⟩, trivial⟩ ?_
  exact q_vret rfl (by decide +kernel)
theorem n_X8_init {K : List q_Kd} {I : Nat → Nat → Int32} {L : Nat → Nat → Int64} {R : Nat → Nat → Option Nat} {n : Nat} (hk : q_kd (K, I, L, R) n = some (.inl 7)) : q_Ca 52 [.ref n] (K, I, L, R) none (K, I, q_u2 (q_u2 L n 0 1) n 3 1, R) := by
  refine q_Ca_of (by decide) (Nat.le_of_ble_eq_true rfl) ?_
  show q_Ex none 52 0 [(0, .ref n)] [] (K, I, L, R) _ _
  refine q_blk2 (pc2 := 1) (ls2 := [(0, .ref n)]) (st2 := [.ref n]) (h2 := (K, I, L, R)) [(.aload_n 0, 0, 0, 0, 0, 0)] (by decide +kernel) rfl rfl ⟨trivial, trivial⟩ ?_
  refine q_objI (idx := 1) (by decide +kernel) (by decide +kernel) (by decide +kernel) ?_
  refine q_blk2 (pc2 := 14) (ls2 := [(0, .ref n)]) (st2 := []) (h2 := (K, I, q_u2 (q_u2 L n 0 1) n 3 1, R)) [(.aload_n 0, 0, 0, 0, 0, 0), (.lconst 1, 0, 0, 0, 0, 1), (.putfield 7, 0, 7, 0, 0, 0), (.aload_n 0, 0, 0, 0, 0, 0), (.lconst 1, 0, 0, 0, 0, 1), (.putfield 13, 0, 7, 3, 0, 0)] (by decide +kernel) rfl rfl ⟨trivial, trivial, hk, trivial, trivial, hk, trivial⟩ ?_
  exact q_vret rfl (by decide +kernel)
set_option maxRecDepth 100000 in
set_option maxHeartbeats 4000000 in
theorem n_X0_init {I : Nat → Nat → Int32} {L : Nat → Nat → Int64} {R : Nat → Nat → Option Nat} (hI : ∀ n, 3 < n → ∀ k, I n k = 0) (hL : ∀ n, 3 < n → ∀ k, L n k = 0) (hR : ∀ n, 3 < n → ∀ k, R n k = none) : q_Ca 0 [.ref 3] (q_K0.take 3, I, L, R) none (q_K0.take 12, q_u2 I 4 0 (-4), L, q_u2 (q_u2 (q_u2 (q_u2 (q_u2 (q_u2 (q_u2 (q_u2 (q_u2 R 3 0 (some 4)) 3 1 (some 5)) 3 2 (some 6)) 3 3 (some 7)) 3 4 (some 8)) 3 5 (some 9)) 3 6 (some 10)) 3 7 (some 11)) 3 8 (some 12)) := by
  refine q_Ca_of (by decide) (Nat.le_of_ble_eq_true rfl) ?_
  show q_Ex none 0 0 [(0, .ref 3)] [] (q_K0.take 3, I, L, R) _ _
  refine q_blk2 (pc2 := 1) (ls2 := [(0, .ref 3)]) (st2 := [.ref 3]) (h2 := (q_K0.take 3, I, L, R)) [(.aload_n 0, 0, 0, 0, 0, 0)] (by decide +kernel) rfl rfl ⟨trivial, trivial⟩ ?_
  refine q_objI (idx := 3) (by decide +kernel) (by decide +kernel) (by decide +kernel) ?_
  refine q_blk2 (pc2 := 5) (ls2 := [(0, .ref 3)]) (st2 := [.ref 3]) (h2 := (q_K0.take 3, I, L, R)) [(.aload_n 0, 0, 0, 0, 0, 0)] (by decide +kernel) rfl rfl ⟨trivial, trivial⟩ ?_
  refine q_new2 3 2 (idx := 9) rfl (by decide) (q_clx 4 (N := 3) (fun n h k => hI n (by omega) k)) (q_clx 4 (N := 3) (fun n h k => hL n (by omega) k)) (q_clx 4 (N := 3) (fun n h k => hR n (by omega) k)) (by decide +kernel) (by decide +kernel) ?_
  refine q_blk2 (pc2 := 9) (ls2 := [(0, .ref 3)]) (st2 := [.ref 4, .ref 4, .ref 3]) (h2 := (q_K0.take 4, I, L, R)) [(.dup, 0, 0, 0, 0, 0)] (by decide +kernel) rfl rfl ⟨trivial, trivial⟩ ?_
  refine q_callI (idx := 11) (h1 := (q_K0.take 4, q_u2 I 4 0 (-4), L, R)) 16 4 2 [] (by decide +kernel) (by decide) (by decide +kernel) rfl (Nat.le_of_ble_eq_true rfl) (by decide +kernel) (n_X2_init rfl) ?_
  refine q_blk2 (pc2 := 19) (ls2 := [(0, .ref 3)]) (st2 := [.int 128, .ref 3]) (h2 := (q_K0.take 4, q_u2 I 4 0 (-4), L, q_u2 R 3 0 (some 4))) [(.putfield 12, 0, 0, 0, 0, 0), (.aload_n 0, 0, 0, 0, 0, 0), (.sipush 128, 0, 0, 0, 128, 0)] (by decide +kernel) rfl rfl ⟨rfl, trivial, trivial, trivial⟩ ?_
  refine q_newi2 4 128 rfl (by decide) (by decide) rfl (by decide) (q_clx 5 (N := 4) (q_clu (by decide) (fun n h k => hI n (by omega) k))) (q_clx 5 (N := 4) (fun n h k => hL n (by omega) k)) (q_clx 5 (N := 4) (q_clu (by decide) (fun n h k => hR n (by omega) k))) (by decide +kernel) ?_
  refine q_blk2 (pc2 := 28) (ls2 := [(0, .ref 3)]) (st2 := [.int 128, .ref 3]) (h2 := (q_K0.take 5, q_u2 I 4 0 (-4), L, q_u2 (q_u2 R 3 0 (some 4)) 3 1 (some 5))) [(.putfield 18, 0, 0, 1, 0, 0), (.aload_n 0, 0, 0, 0, 0, 0), (.sipush 128, 0, 0, 0, 128, 0)] (by decide +kernel) rfl rfl ⟨rfl, trivial, trivial, trivial⟩ ?_
  refine q_newi2 5 128 rfl (by decide) (by decide) rfl (by decide) (q_clx 6 (N := 5) (q_clu (by decide) (fun n h k => hI n (by omega) k))) (q_clx 6 (N := 5) (fun n h k => hL n (by omega) k)) (q_clx 6 (N := 5) (q_clu (by decide) (q_clu (by decide) (fun n h k => hR n (by omega) k)))) (by decide +kernel) ?_
  refine q_blk2 (pc2 := 37) (ls2 := [(0, .ref 3)]) (st2 := [.int 128, .ref 3]) (h2 := (q_K0.take 6, q_u2 I 4 0 (-4), L, q_u2 (q_u2 (q_u2 R 3 0 (some 4)) 3 1 (some 5)) 3 2 (some 6))) [(.putfield 22, 0, 0, 2, 0, 0), (.aload_n 0, 0, 0, 0, 0, 0), (.sipush 128, 0, 0, 0, 128, 0)] (by decide +kernel) rfl rfl ⟨rfl, trivial, trivial, trivial⟩ ?_
  refine q_newi2 6 128 rfl (by decide) (by decide) rfl (by decide) (q_clx 7 (N := 6) (q_clu (by decide) (fun n h k => hI n (by omega) k))) (q_clx 7 (N := 6) (fun n h k => hL n (by omega) k)) (q_clx 7 (N := 6) (q_clu (by decide) (q_clu (by decide) (q_clu (by decide) (fun n h k => hR n (by omega) k))))) (by decide +kernel) ?_
  refine q_blk2 (pc2 := 46) (ls2 := [(0, .ref 3)]) (st2 := [.int 128, .ref 3]) (h2 := (q_K0.take 7, q_u2 I 4 0 (-4), L, q_u2 (q_u2 (q_u2 (q_u2 R 3 0 (some 4)) 3 1 (some 5)) 3 2 (some 6)) 3 3 (some 7))) [(.putfield 25, 0, 0, 3, 0, 0), (.aload_n 0, 0, 0, 0, 0, 0), (.sipush 128, 0, 0, 0, 128, 0)] (by decide +kernel) rfl rfl ⟨rfl, trivial, trivial, trivial⟩ ?_
  refine q_newi2 7 128 rfl (by decide) (by decide) rfl (by decide) (q_clx 8 (N := 7) (q_clu (by decide) (fun n h k => hI n (by omega) k))) (q_clx 8 (N := 7) (fun n h k => hL n (by omega) k)) (q_clx 8 (N := 7) (q_clu (by decide) (q_clu (by decide) (q_clu (by decide) (q_clu (by decide) (fun n h k => hR n (by omega) k)))))) (by decide +kernel) ?_
  refine q_blk2 (pc2 := 55) (ls2 := [(0, .ref 3)]) (st2 := [.int 128, .ref 3]) (h2 := (q_K0.take 8, q_u2 I 4 0 (-4), L, q_u2 (q_u2 (q_u2 (q_u2 (q_u2 R 3 0 (some 4)) 3 1 (some 5)) 3 2 (some 6)) 3 3 (some 7)) 3 4 (some 8))) [(.putfield 28, 0, 0, 4, 0, 0), (.aload_n 0, 0, 0, 0, 0, 0), (.sipush 128, 0, 0, 0, 128, 0)] (by decide +kernel) rfl rfl ⟨rfl, trivial, trivial, trivial⟩ ?_
  refine q_newi2 8 128 rfl (by decide) (by decide) rfl (by decide) (q_clx 9 (N := 8) (q_clu (by decide) (fun n h k => hI n (by omega) k))) (q_clx 9 (N := 8) (fun n h k => hL n (by omega) k)) (q_clx 9 (N := 8) (q_clu (by decide) (q_clu (by decide) (q_clu (by decide) (q_clu (by decide) (q_clu (by decide) (fun n h k => hR n (by omega) k))))))) (by decide +kernel) ?_
  refine q_blk2 (pc2 := 61) (ls2 := [(0, .ref 3)]) (st2 := [.ref 3]) (h2 := (q_K0.take 9, q_u2 I 4 0 (-4), L, q_u2 (q_u2 (q_u2 (q_u2 (q_u2 (q_u2 R 3 0 (some 4)) 3 1 (some 5)) 3 2 (some 6)) 3 3 (some 7)) 3 4 (some 8)) 3 5 (some 9))) [(.putfield 31, 0, 0, 5, 0, 0), (.aload_n 0, 0, 0, 0, 0, 0)] (by decide +kernel) rfl rfl ⟨rfl, trivial, trivial⟩ ?_
  refine q_new2 9 1 (idx := 34) rfl (by decide) (q_clx 10 (N := 9) (q_clu (by decide) (fun n h k => hI n (by omega) k))) (q_clx 10 (N := 9) (fun n h k => hL n (by omega) k)) (q_clx 10 (N := 9) (q_clu (by decide) (q_clu (by decide) (q_clu (by decide) (q_clu (by decide) (q_clu (by decide) (q_clu (by decide) (fun n h k => hR n (by omega) k)))))))) (by decide +kernel) (by decide +kernel) ?_
  refine q_blk2 (pc2 := 65) (ls2 := [(0, .ref 3)]) (st2 := [.ref 10, .ref 10, .ref 3]) (h2 := (q_K0.take 10, q_u2 I 4 0 (-4), L, q_u2 (q_u2 (q_u2 (q_u2 (q_u2 (q_u2 R 3 0 (some 4)) 3 1 (some 5)) 3 2 (some 6)) 3 3 (some 7)) 3 4 (some 8)) 3 5 (some 9))) [(.dup, 0, 0, 0, 0, 0)] (by decide +kernel) rfl rfl ⟨trivial, trivial⟩ ?_
  refine q_callI (idx := 36) (h1 := (q_K0.take 10, q_u2 I 4 0 (-4), L, q_u2 (q_u2 (q_u2 (q_u2 (q_u2 (q_u2 R 3 0 (some 4)) 3 1 (some 5)) 3 2 (some 6)) 3 3 (some 7)) 3 4 (some 8)) 3 5 (some 9))) 11 10 3 [] (by decide +kernel) (by decide) (by decide +kernel) rfl (Nat.le_of_ble_eq_true rfl) (by decide +kernel) (n_X1_init) ?_
  refine q_blk2 (pc2 := 72) (ls2 := [(0, .ref 3)]) (st2 := [.ref 3]) (h2 := (q_K0.take 10, q_u2 I 4 0 (-4), L, q_u2 (q_u2 (q_u2 (q_u2 (q_u2 (q_u2 (q_u2 R 3 0 (some 4)) 3 1 (some 5)) 3 2 (some 6)) 3 3 (some 7)) 3 4 (some 8)) 3 5 (some 9)) 3 6 (some 10))) [(.putfield 37, 0, 0, 6, 0, 0), (.aload_n 0, 0, 0, 0, 0, 0)] (by decide +kernel) rfl rfl ⟨rfl, trivial, trivial⟩ ?_
  refine q_new2 10 1 (idx := 34) rfl (by decide) (q_clx 11 (N := 10) (q_clu (by decide) (fun n h k => hI n (by omega) k))) (q_clx 11 (N := 10) (fun n h k => hL n (by omega) k)) (q_clx 11 (N := 10) (q_clu (by decide) (q_clu (by decide) (q_clu (by decide) (q_clu (by decide) (q_clu (by decide) (q_clu (by decide) (q_clu (by decide) (fun n h k => hR n (by omega) k))))))))) (by decide +kernel) (by decide +kernel) ?_
  refine q_blk2 (pc2 := 76) (ls2 := [(0, .ref 3)]) (st2 := [.ref 11, .ref 11, .ref 3]) (h2 := (q_K0.take 11, q_u2 I 4 0 (-4), L, q_u2 (q_u2 (q_u2 (q_u2 (q_u2 (q_u2 (q_u2 R 3 0 (some 4)) 3 1 (some 5)) 3 2 (some 6)) 3 3 (some 7)) 3 4 (some 8)) 3 5 (some 9)) 3 6 (some 10))) [(.dup, 0, 0, 0, 0, 0)] (by decide +kernel) rfl rfl ⟨trivial, trivial⟩ ?_
  refine q_callI (idx := 36) (h1 := (q_K0.take 11, q_u2 I 4 0 (-4), L, q_u2 (q_u2 (q_u2 (q_u2 (q_u2 (q_u2 (q_u2 R 3 0 (some 4)) 3 1 (some 5)) 3 2 (some 6)) 3 3 (some 7)) 3 4 (some 8)) 3 5 (some 9)) 3 6 (some 10))) 11 11 3 [] (by decide +kernel) (by decide) (by decide +kernel) rfl (Nat.le_of_ble_eq_true rfl) (by decide +kernel) (n_X1_init) ?_
  refine q_blk2 (pc2 := 83) (ls2 := [(0, .ref 3)]) (st2 := [.ref 3]) (h2 := (q_K0.take 11, q_u2 I 4 0 (-4), L, q_u2 (q_u2 (q_u2 (q_u2 (q_u2 (q_u2 (q_u2 (q_u2 R 3 0 (some 4)) 3 1 (some 5)) 3 2 (some 6)) 3 3 (some 7)) 3 4 (some 8)) 3 5 (some 9)) 3 6 (some 10)) 3 7 (some 11))) [(.putfield 41, 0, 0, 7, 0, 0), (.aload_n 0, 0, 0, 0, 0, 0)] (by decide +kernel) rfl rfl ⟨rfl, trivial, trivial⟩ ?_
  refine q_new2 11 1 (idx := 34) rfl (by decide) (q_clx 12 (N := 11) (q_clu (by decide) (fun n h k => hI n (by omega) k))) (q_clx 12 (N := 11) (fun n h k => hL n (by omega) k)) (q_clx 12 (N := 11) (q_clu (by decide) (q_clu (by decide) (q_clu (by decide) (q_clu (by decide) (q_clu (by decide) (q_clu (by decide) (q_clu (by decide) (q_clu (by decide) (fun n h k => hR n (by omega) k)))))))))) (by decide +kernel) (by decide +kernel) ?_
  refine q_blk2 (pc2 := 87) (ls2 := [(0, .ref 3)]) (st2 := [.ref 12, .ref 12, .ref 3]) (h2 := (q_K0.take 12, q_u2 I 4 0 (-4), L, q_u2 (q_u2 (q_u2 (q_u2 (q_u2 (q_u2 (q_u2 (q_u2 R 3 0 (some 4)) 3 1 (some 5)) 3 2 (some 6)) 3 3 (some 7)) 3 4 (some 8)) 3 5 (some 9)) 3 6 (some 10)) 3 7 (some 11))) [(.dup, 0, 0, 0, 0, 0)] (by decide +kernel) rfl rfl ⟨trivial, trivial⟩ ?_
  refine q_callI (idx := 36) (h1 := (q_K0.take 12, q_u2 I 4 0 (-4), L, q_u2 (q_u2 (q_u2 (q_u2 (q_u2 (q_u2 (q_u2 (q_u2 R 3 0 (some 4)) 3 1 (some 5)) 3 2 (some 6)) 3 3 (some 7)) 3 4 (some 8)) 3 5 (some 9)) 3 6 (some 10)) 3 7 (some 11))) 11 12 3 [] (by decide +kernel) (by decide) (by decide +kernel) rfl (Nat.le_of_ble_eq_true rfl) (by decide +kernel) (n_X1_init) ?_
  refine q_blk2 (pc2 := 93) (ls2 := [(0, .ref 3)]) (st2 := []) (h2 := (q_K0.take 12, q_u2 I 4 0 (-4), L, q_u2 (q_u2 (q_u2 (q_u2 (q_u2 (q_u2 (q_u2 (q_u2 (q_u2 R 3 0 (some 4)) 3 1 (some 5)) 3 2 (some 6)) 3 3 (some 7)) 3 4 (some 8)) 3 5 (some 9)) 3 6 (some 10)) 3 7 (some 11)) 3 8 (some 12))) [(.putfield 44, 0, 0, 8, 0, 0)] (by decide +kernel) rfl rfl ⟨rfl, trivial⟩ ?_
  exact q_vret rfl (by decide +kernel)
set_option maxRecDepth 100000 in
set_option maxHeartbeats 4000000 in
theorem n_X3_init {I : Nat → Nat → Int32} {L : Nat → Nat → Int64} {R : Nat → Nat → Option Nat} (hI : ∀ n, 2 < n → ∀ k, I n k = 0) (hL : ∀ n, 2 < n → ∀ k, L n k = 0) (hR : ∀ n, 2 < n → ∀ k, R n k = none) : q_Ca 24 [.ref 2] (q_K0.take 2, I, L, R) none (q_K0.take 16, q_u2 I 4 0 (-4), L, q_u2 (q_u2 (q_u2 (q_u2 (q_u2 (q_u2 (q_u2 (q_u2 (q_u2 (q_u2 (q_u2 (q_u2 (q_u2 (q_u2 R 3 0 (some 4)) 3 1 (some 5)) 3 2 (some 6)) 3 3 (some 7)) 3 4 (some 8)) 3 5 (some 9)) 3 6 (some 10)) 3 7 (some 11)) 3 8 (some 12)) 2 0 (some 3)) 2 1 (some 13)) 2 2 (some 14)) 2 3 (some 15)) 2 4 (some 16)) := by
  refine q_Ca_of (by decide) (Nat.le_of_ble_eq_true rfl) ?_
  show q_Ex none 24 0 [(0, .ref 2)] [] (q_K0.take 2, I, L, R) _ _
  refine q_blk2 (pc2 := 1) (ls2 := [(0, .ref 2)]) (st2 := [.ref 2]) (h2 := (q_K0.take 2, I, L, R)) [(.aload_n 0, 0, 0, 0, 0, 0)] (by decide +kernel) rfl rfl ⟨trivial, trivial⟩ ?_
  refine q_objI (idx := 3) (by decide +kernel) (by decide +kernel) (by decide +kernel) ?_
  refine q_blk2 (pc2 := 5) (ls2 := [(0, .ref 2)]) (st2 := [.ref 2]) (h2 := (q_K0.take 2, I, L, R)) [(.aload_n 0, 0, 0, 0, 0, 0)] (by decide +kernel) rfl rfl ⟨trivial, trivial⟩ ?_
  refine q_new2 2 0 (idx := 9) rfl (by decide) (q_clx 3 (N := 2) (fun n h k => hI n (by omega) k)) (q_clx 3 (N := 2) (fun n h k => hL n (by omega) k)) (q_clx 3 (N := 2) (fun n h k => hR n (by omega) k)) (by decide +kernel) (by decide +kernel) ?_
  refine q_blk2 (pc2 := 9) (ls2 := [(0, .ref 2)]) (st2 := [.ref 3, .ref 3, .ref 2]) (h2 := (q_K0.take 3, I, L, R)) [(.dup, 0, 0, 0, 0, 0)] (by decide +kernel) rfl rfl ⟨trivial, trivial⟩ ?_
  refine q_callI (idx := 11) (h1 := (q_K0.take 12, q_u2 I 4 0 (-4), L, q_u2 (q_u2 (q_u2 (q_u2 (q_u2 (q_u2 (q_u2 (q_u2 (q_u2 R 3 0 (some 4)) 3 1 (some 5)) 3 2 (some 6)) 3 3 (some 7)) 3 4 (some 8)) 3 5 (some 9)) 3 6 (some 10)) 3 7 (some 11)) 3 8 (some 12))) 0 3 2 [] (by decide +kernel) (by decide) (by decide +kernel) rfl (Nat.le_of_ble_eq_true rfl) (by decide +kernel) (n_X0_init (fun n h k => hI n (by omega) k) (fun n h k => hL n (by omega) k) (fun n h k => hR n (by omega) k)) ?_
  refine q_blk2 (pc2 := 19) (ls2 := [(0, .ref 2)]) (st2 := [.int 128, .ref 2]) (h2 := (q_K0.take 12, q_u2 I 4 0 (-4), L, q_u2 (q_u2 (q_u2 (q_u2 (q_u2 (q_u2 (q_u2 (q_u2 (q_u2 (q_u2 R 3 0 (some 4)) 3 1 (some 5)) 3 2 (some 6)) 3 3 (some 7)) 3 4 (some 8)) 3 5 (some 9)) 3 6 (some 10)) 3 7 (some 11)) 3 8 (some 12)) 2 0 (some 3))) [(.putfield 12, 0, 3, 0, 0, 0), (.aload_n 0, 0, 0, 0, 0, 0), (.sipush 128, 0, 0, 0, 128, 0)] (by decide +kernel) rfl rfl ⟨rfl, trivial, trivial, trivial⟩ ?_
  refine q_newi2 12 128 rfl (by decide) (by decide) rfl (by decide) (q_clx 13 (N := 12) (q_clu (by decide) (fun n h k => hI n (by omega) k))) (q_clx 13 (N := 12) (fun n h k => hL n (by omega) k)) (q_clx 13 (N := 12) (q_clu (by decide) (q_clu (by decide) (q_clu (by decide) (q_clu (by decide) (q_clu (by decide) (q_clu (by decide) (q_clu (by decide) (q_clu (by decide) (q_clu (by decide) (q_clu (by decide) (fun n h k => hR n (by omega) k)))))))))))) (by decide +kernel) ?_
  refine q_blk2 (pc2 := 28) (ls2 := [(0, .ref 2)]) (st2 := [.int 128, .ref 2]) (h2 := (q_K0.take 13, q_u2 I 4 0 (-4), L, q_u2 (q_u2 (q_u2 (q_u2 (q_u2 (q_u2 (q_u2 (q_u2 (q_u2 (q_u2 (q_u2 R 3 0 (some 4)) 3 1 (some 5)) 3 2 (some 6)) 3 3 (some 7)) 3 4 (some 8)) 3 5 (some 9)) 3 6 (some 10)) 3 7 (some 11)) 3 8 (some 12)) 2 0 (some 3)) 2 1 (some 13))) [(.putfield 18, 0, 3, 1, 0, 0), (.aload_n 0, 0, 0, 0, 0, 0), (.sipush 128, 0, 0, 0, 128, 0)] (by decide +kernel) rfl rfl ⟨rfl, trivial, trivial, trivial⟩ ?_
  refine q_newi2 13 128 rfl (by decide) (by decide) rfl (by decide) (q_clx 14 (N := 13) (q_clu (by decide) (fun n h k => hI n (by omega) k))) (q_clx 14 (N := 13) (fun n h k => hL n (by omega) k)) (q_clx 14 (N := 13) (q_clu (by decide) (q_clu (by decide) (q_clu (by decide) (q_clu (by decide) (q_clu (by decide) (q_clu (by decide) (q_clu (by decide) (q_clu (by decide) (q_clu (by decide) (q_clu (by decide) (q_clu (by decide) (fun n h k => hR n (by omega) k))))))))))))) (by decide +kernel) ?_
  refine q_blk2 (pc2 := 37) (ls2 := [(0, .ref 2)]) (st2 := [.int 128, .ref 2]) (h2 := (q_K0.take 14, q_u2 I 4 0 (-4), L, q_u2 (q_u2 (q_u2 (q_u2 (q_u2 (q_u2 (q_u2 (q_u2 (q_u2 (q_u2 (q_u2 (q_u2 R 3 0 (some 4)) 3 1 (some 5)) 3 2 (some 6)) 3 3 (some 7)) 3 4 (some 8)) 3 5 (some 9)) 3 6 (some 10)) 3 7 (some 11)) 3 8 (some 12)) 2 0 (some 3)) 2 1 (some 13)) 2 2 (some 14))) [(.putfield 22, 0, 3, 2, 0, 0), (.aload_n 0, 0, 0, 0, 0, 0), (.sipush 128, 0, 0, 0, 128, 0)] (by decide +kernel) rfl rfl ⟨rfl, trivial, trivial, trivial⟩ ?_
  refine q_newi2 14 128 rfl (by decide) (by decide) rfl (by decide) (q_clx 15 (N := 14) (q_clu (by decide) (fun n h k => hI n (by omega) k))) (q_clx 15 (N := 14) (fun n h k => hL n (by omega) k)) (q_clx 15 (N := 14) (q_clu (by decide) (q_clu (by decide) (q_clu (by decide) (q_clu (by decide) (q_clu (by decide) (q_clu (by decide) (q_clu (by decide) (q_clu (by decide) (q_clu (by decide) (q_clu (by decide) (q_clu (by decide) (q_clu (by decide) (fun n h k => hR n (by omega) k)))))))))))))) (by decide +kernel) ?_
  refine q_blk2 (pc2 := 45) (ls2 := [(0, .ref 2)]) (st2 := [.int 16, .ref 2]) (h2 := (q_K0.take 15, q_u2 I 4 0 (-4), L, q_u2 (q_u2 (q_u2 (q_u2 (q_u2 (q_u2 (q_u2 (q_u2 (q_u2 (q_u2 (q_u2 (q_u2 (q_u2 R 3 0 (some 4)) 3 1 (some 5)) 3 2 (some 6)) 3 3 (some 7)) 3 4 (some 8)) 3 5 (some 9)) 3 6 (some 10)) 3 7 (some 11)) 3 8 (some 12)) 2 0 (some 3)) 2 1 (some 13)) 2 2 (some 14)) 2 3 (some 15))) [(.putfield 25, 0, 3, 3, 0, 0), (.aload_n 0, 0, 0, 0, 0, 0), (.bipush 16, 0, 0, 0, 16, 0)] (by decide +kernel) rfl rfl ⟨rfl, trivial, trivial, trivial⟩ ?_
  refine q_newi2 15 16 rfl (by decide) (by decide) rfl (by decide) (q_clx 16 (N := 15) (q_clu (by decide) (fun n h k => hI n (by omega) k))) (q_clx 16 (N := 15) (fun n h k => hL n (by omega) k)) (q_clx 16 (N := 15) (q_clu (by decide) (q_clu (by decide) (q_clu (by decide) (q_clu (by decide) (q_clu (by decide) (q_clu (by decide) (q_clu (by decide) (q_clu (by decide) (q_clu (by decide) (q_clu (by decide) (q_clu (by decide) (q_clu (by decide) (q_clu (by decide) (fun n h k => hR n (by omega) k))))))))))))))) (by decide +kernel) ?_
  refine q_blk2 (pc2 := 50) (ls2 := [(0, .ref 2)]) (st2 := []) (h2 := (q_K0.take 16, q_u2 I 4 0 (-4), L, q_u2 (q_u2 (q_u2 (q_u2 (q_u2 (q_u2 (q_u2 (q_u2 (q_u2 (q_u2 (q_u2 (q_u2 (q_u2 (q_u2 R 3 0 (some 4)) 3 1 (some 5)) 3 2 (some 6)) 3 3 (some 7)) 3 4 (some 8)) 3 5 (some 9)) 3 6 (some 10)) 3 7 (some 11)) 3 8 (some 12)) 2 0 (some 3)) 2 1 (some 13)) 2 2 (some 14)) 2 3 (some 15)) 2 4 (some 16))) [(.putfield 28, 0, 3, 4, 0, 0)] (by decide +kernel) rfl rfl ⟨rfl, trivial⟩ ?_
  exact q_vret rfl (by decide +kernel)
theorem q_kfa : ∀ i, i < 40 → q_K0[18 + i]? = some (.inl 1) := by decide +kernel
theorem q_fla {R : Nat → Nat → Option Nat} {i : Nat} (hi : i < 40) : q_u2 (q_fl R 18 19 i) 18 (Int32.toNatClampNeg (nI i)) (some (19 + i)) = q_fl R 18 19 (i + 1) := by
  have e : Int32.toNatClampNeg (nI i) = i := nI_clamp (by omega)
  rw [e]
  funext n k
  by_cases c1 : n = 18
  · subst c1
    simp only [q_u2, q_fl, if_true]
    by_cases c2 : k = i
    · subst c2
      simp
    · rw [if_neg c2]
      by_cases c3 : k < i
      · rw [if_pos c3, if_pos (by omega)]
      · rw [if_neg c3, if_neg (by omega)]
  · simp only [q_u2, q_fl, if_neg c1]
set_option maxRecDepth 100000 in
set_option maxHeartbeats 4000000 in
theorem n_shelfa {I : Nat → Nat → Int32} {L : Nat → Nat → Int64} {R : Nat → Nat → Option Nat} {r : Option Value} {h2 : q_H} (hI : ∀ n, 18 < n → ∀ k, I n k = 0) (hL : ∀ n, 18 < n → ∀ k, L n k = 0) (hR : ∀ n, 18 < n → ∀ k, R n k = none) (hf : R 17 0 = some 18) (K : q_Ex none 42 40 [(1, .int (nI 40)), (0, .ref 17)] [] (q_K0.take 58, I, L, q_fl R 18 19 40) r h2) :
    ∀ (d i : Nat), i + d = 40 → q_Ex none 42 15 [(1, .int (nI i)), (0, .ref 17)] [] (q_K0.take (18 + i), I, L, q_fl R 18 19 i) r h2 := by
  intro d
  induction d with
  | zero =>
    intro i hi
    have hi : i = 40 := by omega
    subst hi
    refine q_blk2 (pc2 := 18) (ls2 := [(1, .int (nI 40)), (0, .ref 17)]) (st2 := [.int 40, .int (nI 40)]) (h2 := (q_K0.take 58, I, L, q_fl R 18 19 40)) [(.iload_n 1, 0, 0, 0, 0, 0), (.bipush 40, 0, 0, 0, 40, 0)] (by decide +kernel) rfl rfl ⟨trivial, trivial, trivial⟩ ?_
    exact q_ic_ge (off := 22) (tgt := 40) (by decide +kernel) (by decide) (fun _ => K) (fun c => absurd (by decide) c)
  | succ d ih =>
    intro i hi
    have hlt : i < 40 := by omega
    refine q_blk2 (pc2 := 18) (ls2 := [(1, .int (nI i)), (0, .ref 17)]) (st2 := [.int 40, .int (nI i)]) (h2 := (q_K0.take (18 + i), I, L, q_fl R 18 19 i)) [(.iload_n 1, 0, 0, 0, 0, 0), (.bipush 40, 0, 0, 0, 40, 0)] (by decide +kernel) rfl rfl ⟨trivial, trivial, trivial⟩ ?_
    refine q_ic_ge (off := 22) (tgt := 40) (by decide +kernel) (by decide) (fun c => absurd c (nI_ge hlt (by decide))) (fun _ => ?_)
    have hk17 : q_kd (q_K0.take (18 + i), I, L, q_fl R 18 19 i) 17 = some (.inl 6) := by
      show (q_K0.take (18 + i))[16]? = some (.inl 6)
      rw [List.getElem?_take, if_pos (by omega)]
      rfl
    have hf2 : q_av (q_K0.take (18 + i), I, L, q_fl R 18 19 i) 6 17 0 = .ref 18 := by
      show va_rf (R 17 0) = .ref 18
      rw [hf]
      rfl
    refine q_blk2 (pc2 := 25) (ls2 := [(1, .int (nI i)), (0, .ref 17)]) (st2 := [q_av (q_K0.take (18 + i), I, L, q_fl R 18 19 i) 6 17 0]) (h2 := (q_K0.take (18 + i), I, L, q_fl R 18 19 i)) [(.aload_n 0, 0, 0, 0, 0, 0), (.getfield 11, 0, 6, 0, 0, 0)] (by decide +kernel) rfl rfl ⟨trivial, hk17, trivial⟩ ?_
    rw [hf2]
    refine q_blk2 (pc2 := 26) (ls2 := [(1, .int (nI i)), (0, .ref 17)]) (st2 := [.int (nI i), .ref 18]) (h2 := (q_K0.take (18 + i), I, L, q_fl R 18 19 i)) [(.iload_n 1, 0, 0, 0, 0, 0)] (by decide +kernel) rfl rfl ⟨trivial, trivial⟩ ?_
    refine q_new2 (18 + i) 1 (idx := 9) (q_kfa i hlt) (by omega) (fun k => hI _ (by omega) k) (fun k => hL _ (by omega) k) (fun k => by simp only [q_fl]; rw [if_neg (by omega)]; exact hR _ (by omega) k) (by decide +kernel) (by decide +kernel) ?_
    refine q_blk2 (pc2 := 30) (ls2 := [(1, .int (nI i)), (0, .ref 17)]) (st2 := [.ref (18 + i + 1), .ref (18 + i + 1), .int (nI i), .ref 18]) (h2 := (q_K0.take (18 + i + 1), I, L, q_fl R 18 19 i)) [(.dup, 0, 0, 0, 0, 0)] (by decide +kernel) rfl rfl ⟨trivial, trivial⟩ ?_
    refine q_callI (idx := 17) (h1 := (q_K0.take (18 + i + 1), I, L, q_fl R 18 19 i)) 11 (18 + i + 1) 3 [] (by decide +kernel) (by decide) (by decide +kernel) rfl (Nat.le_of_ble_eq_true rfl) (by decide +kernel) n_X1_init ?_
    have hka : q_kd (q_K0.take (18 + i + 1), I, L, q_fl R 18 19 i) 18 = some (.inr (2, 40)) := by
      show (q_K0.take (18 + i + 1))[17]? = some (.inr (2, 40))
      rw [List.getElem?_take, if_pos (by omega)]
      rfl
    have hkn : q_kd (q_K0.take (18 + i + 1), I, L, q_fl R 18 19 i) (18 + i + 1) = some (.inl 1) := by
      show (q_K0.take (18 + i + 1))[18 + i]? = some (.inl 1)
      rw [List.getElem?_take, if_pos (by omega)]
      exact q_kfa i hlt
    refine q_blk2 (pc2 := 34) (ls2 := [(1, .int (nI i)), (0, .ref 17)]) (st2 := []) (h2 := (q_K0.take (18 + i + 1), I, L, q_u2 (q_fl R 18 19 i) 18 (Int32.toNatClampNeg (nI i)) (some (18 + i + 1)))) [(.aastore, 0, 0, 0, 0, 0)] (by decide +kernel) rfl rfl ⟨⟨⟨_, hka, vp_in_nI hlt (by decide)⟩, hkn⟩, trivial⟩ ?_
    have e9 : 18 + i + 1 = 19 + i := by omega
    rw [e9, q_fla hlt]
    refine q_blk2 (pc2 := 37) (ls2 := [(1, .int (nI i + 1)), (0, .ref 17)]) (st2 := []) (h2 := (q_K0.take (19 + i), I, L, q_fl R 18 19 (i + 1))) [(.iinc 1 1, 0, 0, 0, 1, 0)] (by decide +kernel) rfl rfl ⟨trivial, trivial⟩ ?_
    refine q_goto (off := -22) (tgt := 15) (by decide +kernel) (by decide) ?_
    rw [nI_1]
    have e8 : 19 + i = 18 + (i + 1) := by omega
    rw [e8]
    exact ih (i + 1) (by omega)
theorem q_kfb : ∀ i, i < 60 → q_K0[59 + i]? = some (.inl 1) := by decide +kernel
theorem q_flb {R : Nat → Nat → Option Nat} {i : Nat} (hi : i < 60) : q_u2 (q_fl R 59 60 i) 59 (Int32.toNatClampNeg (nI i)) (some (60 + i)) = q_fl R 59 60 (i + 1) := by
  have e : Int32.toNatClampNeg (nI i) = i := nI_clamp (by omega)
  rw [e]
  funext n k
  by_cases c1 : n = 59
  · subst c1
    simp only [q_u2, q_fl, if_true]
    by_cases c2 : k = i
    · subst c2
      simp
    · rw [if_neg c2]
      by_cases c3 : k < i
      · rw [if_pos c3, if_pos (by omega)]
      · rw [if_neg c3, if_neg (by omega)]
  · simp only [q_u2, q_fl, if_neg c1]
set_option maxRecDepth 100000 in
set_option maxHeartbeats 4000000 in
theorem n_shelfb {I : Nat → Nat → Int32} {L : Nat → Nat → Int64} {R : Nat → Nat → Option Nat} {r : Option Value} {h2 : q_H} (hI : ∀ n, 59 < n → ∀ k, I n k = 0) (hL : ∀ n, 59 < n → ∀ k, L n k = 0) (hR : ∀ n, 59 < n → ∀ k, R n k = none) (hf : R 17 1 = some 59) (K : q_Ex none 42 76 [(1, .int (nI 60)), (0, .ref 17)] [] (q_K0.take 119, I, L, q_fl R 59 60 60) r h2) :
    ∀ (d i : Nat), i + d = 60 → q_Ex none 42 51 [(1, .int (nI i)), (0, .ref 17)] [] (q_K0.take (59 + i), I, L, q_fl R 59 60 i) r h2 := by
  intro d
  induction d with
  | zero =>
    intro i hi
    have hi : i = 60 := by omega
    subst hi
    refine q_blk2 (pc2 := 54) (ls2 := [(1, .int (nI 60)), (0, .ref 17)]) (st2 := [.int 60, .int (nI 60)]) (h2 := (q_K0.take 119, I, L, q_fl R 59 60 60)) [(.iload_n 1, 0, 0, 0, 0, 0), (.bipush 60, 0, 0, 0, 60, 0)] (by decide +kernel) rfl rfl ⟨trivial, trivial, trivial⟩ ?_
    exact q_ic_ge (off := 22) (tgt := 76) (by decide +kernel) (by decide) (fun _ => K) (fun c => absurd (by decide) c)
  | succ d ih =>
    intro i hi
    have hlt : i < 60 := by omega
    refine q_blk2 (pc2 := 54) (ls2 := [(1, .int (nI i)), (0, .ref 17)]) (st2 := [.int 60, .int (nI i)]) (h2 := (q_K0.take (59 + i), I, L, q_fl R 59 60 i)) [(.iload_n 1, 0, 0, 0, 0, 0), (.bipush 60, 0, 0, 0, 60, 0)] (by decide +kernel) rfl rfl ⟨trivial, trivial, trivial⟩ ?_
    refine q_ic_ge (off := 22) (tgt := 76) (by decide +kernel) (by decide) (fun c => absurd c (nI_ge hlt (by decide))) (fun _ => ?_)
    have hk17 : q_kd (q_K0.take (59 + i), I, L, q_fl R 59 60 i) 17 = some (.inl 6) := by
      show (q_K0.take (59 + i))[16]? = some (.inl 6)
      rw [List.getElem?_take, if_pos (by omega)]
      rfl
    have hf2 : q_av (q_K0.take (59 + i), I, L, q_fl R 59 60 i) 6 17 1 = .ref 59 := by
      show va_rf (R 17 1) = .ref 59
      rw [hf]
      rfl
    refine q_blk2 (pc2 := 61) (ls2 := [(1, .int (nI i)), (0, .ref 17)]) (st2 := [q_av (q_K0.take (59 + i), I, L, q_fl R 59 60 i) 6 17 1]) (h2 := (q_K0.take (59 + i), I, L, q_fl R 59 60 i)) [(.aload_n 0, 0, 0, 0, 0, 0), (.getfield 18, 0, 6, 1, 0, 0)] (by decide +kernel) rfl rfl ⟨trivial, hk17, trivial⟩ ?_
    rw [hf2]
    refine q_blk2 (pc2 := 62) (ls2 := [(1, .int (nI i)), (0, .ref 17)]) (st2 := [.int (nI i), .ref 59]) (h2 := (q_K0.take (59 + i), I, L, q_fl R 59 60 i)) [(.iload_n 1, 0, 0, 0, 0, 0)] (by decide +kernel) rfl rfl ⟨trivial, trivial⟩ ?_
    refine q_new2 (59 + i) 1 (idx := 9) (q_kfb i hlt) (by omega) (fun k => hI _ (by omega) k) (fun k => hL _ (by omega) k) (fun k => by simp only [q_fl]; rw [if_neg (by omega)]; exact hR _ (by omega) k) (by decide +kernel) (by decide +kernel) ?_
    refine q_blk2 (pc2 := 66) (ls2 := [(1, .int (nI i)), (0, .ref 17)]) (st2 := [.ref (59 + i + 1), .ref (59 + i + 1), .int (nI i), .ref 59]) (h2 := (q_K0.take (59 + i + 1), I, L, q_fl R 59 60 i)) [(.dup, 0, 0, 0, 0, 0)] (by decide +kernel) rfl rfl ⟨trivial, trivial⟩ ?_
    refine q_callI (idx := 17) (h1 := (q_K0.take (59 + i + 1), I, L, q_fl R 59 60 i)) 11 (59 + i + 1) 3 [] (by decide +kernel) (by decide) (by decide +kernel) rfl (Nat.le_of_ble_eq_true rfl) (by decide +kernel) n_X1_init ?_
    have hka : q_kd (q_K0.take (59 + i + 1), I, L, q_fl R 59 60 i) 59 = some (.inr (2, 60)) := by
      show (q_K0.take (59 + i + 1))[58]? = some (.inr (2, 60))
      rw [List.getElem?_take, if_pos (by omega)]
      rfl
    have hkn : q_kd (q_K0.take (59 + i + 1), I, L, q_fl R 59 60 i) (59 + i + 1) = some (.inl 1) := by
      show (q_K0.take (59 + i + 1))[59 + i]? = some (.inl 1)
      rw [List.getElem?_take, if_pos (by omega)]
      exact q_kfb i hlt
    refine q_blk2 (pc2 := 70) (ls2 := [(1, .int (nI i)), (0, .ref 17)]) (st2 := []) (h2 := (q_K0.take (59 + i + 1), I, L, q_u2 (q_fl R 59 60 i) 59 (Int32.toNatClampNeg (nI i)) (some (59 + i + 1)))) [(.aastore, 0, 0, 0, 0, 0)] (by decide +kernel) rfl rfl ⟨⟨⟨_, hka, vp_in_nI hlt (by decide)⟩, hkn⟩, trivial⟩ ?_
    have e9 : 59 + i + 1 = 60 + i := by omega
    rw [e9, q_flb hlt]
    refine q_blk2 (pc2 := 73) (ls2 := [(1, .int (nI i + 1)), (0, .ref 17)]) (st2 := []) (h2 := (q_K0.take (60 + i), I, L, q_fl R 59 60 (i + 1))) [(.iinc 1 1, 0, 0, 0, 1, 0)] (by decide +kernel) rfl rfl ⟨trivial, trivial⟩ ?_
    refine q_goto (off := -22) (tgt := 51) (by decide +kernel) (by decide) ?_
    rw [nI_1]
    have e8 : 60 + i = 59 + (i + 1) := by omega
    rw [e8]
    exact ih (i + 1) (by omega)
theorem q_W0 {R : (Nat → Nat → Option Nat) → Prop} {a b : Nat → Nat → Option Nat} (e : b = a) (h : R b) : R a := e ▸ h
theorem q_fl0 (R : Nat → Nat → Option Nat) (a base : Nat) : q_fl R a base 0 = R := by
  funext n k
  simp [q_fl]
set_option maxRecDepth 100000 in
set_option maxHeartbeats 4000000 in
theorem n_X6_init {I : Nat → Nat → Int32} {L : Nat → Nat → Int64} {R : Nat → Nat → Option Nat} (hI : ∀ n, 17 < n → ∀ k, I n k = 0) (hL : ∀ n, 17 < n → ∀ k, L n k = 0) (hR : ∀ n, 17 < n → ∀ k, R n k = none) : q_Ca 42 [.ref 17] (q_K0.take 17, I, L, R) none (q_K0.take 120, I, L, q_u2 (q_fl (q_u2 (q_fl (q_u2 R 17 0 (some 18)) 18 19 40) 17 1 (some 59)) 59 60 60) 17 2 (some 120)) := by
  refine q_Ca_of (by decide) (Nat.le_of_ble_eq_true rfl) ?_
  show q_Ex none 42 0 [(0, .ref 17)] [] (q_K0.take 17, I, L, R) _ _
  refine q_blk2 (pc2 := 1) (ls2 := [(0, .ref 17)]) (st2 := [.ref 17]) (h2 := (q_K0.take 17, I, L, R)) [(.aload_n 0, 0, 0, 0, 0, 0)] (by decide +kernel) rfl rfl ⟨trivial, trivial⟩ ?_
  refine q_objI (idx := 3) (by decide +kernel) (by decide +kernel) (by decide +kernel) ?_
  refine q_blk2 (pc2 := 7) (ls2 := [(0, .ref 17)]) (st2 := [.int 40, .ref 17]) (h2 := (q_K0.take 17, I, L, R)) [(.aload_n 0, 0, 0, 0, 0, 0), (.bipush 40, 0, 0, 0, 40, 0)] (by decide +kernel) rfl rfl ⟨trivial, trivial, trivial⟩ ?_
  refine q_newq2 17 40 (idx := 9) rfl (by decide) (by decide +kernel) (by decide) rfl (by decide) (q_clx 18 (N := 17) (fun n h k => hI n (by omega) k)) (q_clx 18 (N := 17) (fun n h k => hL n (by omega) k)) (q_clx 18 (N := 17) (fun n h k => hR n (by omega) k)) (by decide +kernel) ?_
  refine q_blk2 (pc2 := 15) (ls2 := [(1, .int 0), (0, .ref 17)]) (st2 := []) (h2 := (q_K0.take 18, I, L, q_u2 R 17 0 (some 18))) [(.putfield 11, 0, 6, 0, 0, 0), (.iconst 0, 0, 0, 0, 0, 0), (.istore_n 1, 0, 0, 0, 0, 0)] (by decide +kernel) rfl rfl ⟨rfl, trivial, trivial, trivial⟩ ?_
  refine q_W0 (R := fun R => q_Ex none 42 15 [(1, .int 0), (0, .ref 17)] [] (q_K0.take 18, I, L, R) none _) (q_fl0 (q_u2 R 17 0 (some 18)) 18 19) ?_
  refine n_shelfa (R := q_u2 R 17 0 (some 18)) (fun n h k => hI n (by omega) k) (fun n h k => hL n (by omega) k) (q_clu (by decide) (fun n h k => hR n (by omega) k)) rfl ?_ 40 0 rfl
  refine q_blk2 (pc2 := 43) (ls2 := [(1, .int (nI 40)), (0, .ref 17)]) (st2 := [.int 60, .ref 17]) (h2 := (q_K0.take 58, I, L, q_fl (q_u2 R 17 0 (some 18)) 18 19 40)) [(.aload_n 0, 0, 0, 0, 0, 0), (.bipush 60, 0, 0, 0, 60, 0)] (by decide +kernel) rfl rfl ⟨trivial, trivial, trivial⟩ ?_
  refine q_newq2 58 60 (idx := 9) rfl (by decide) (by decide +kernel) (by decide) rfl (by decide) (q_clx 59 (N := 58) (fun n h k => hI n (by omega) k)) (q_clx 59 (N := 58) (fun n h k => hL n (by omega) k)) (q_clx 59 (N := 58) (q_clf (by decide) (q_clu (by decide) (fun n h k => hR n (by omega) k)))) (by decide +kernel) ?_
  refine q_blk2 (pc2 := 51) (ls2 := [(1, .int 0), (0, .ref 17)]) (st2 := []) (h2 := (q_K0.take 59, I, L, q_u2 (q_fl (q_u2 R 17 0 (some 18)) 18 19 40) 17 1 (some 59))) [(.putfield 18, 0, 6, 1, 0, 0), (.iconst 0, 0, 0, 0, 0, 0), (.istore_n 1, 0, 0, 0, 0, 0)] (by decide +kernel) rfl rfl ⟨rfl, trivial, trivial, trivial⟩ ?_
  refine q_W0 (R := fun R => q_Ex none 42 51 [(1, .int 0), (0, .ref 17)] [] (q_K0.take 59, I, L, R) none _) (q_fl0 (q_u2 (q_fl (q_u2 R 17 0 (some 18)) 18 19 40) 17 1 (some 59)) 59 60) ?_
  refine n_shelfb (R := q_u2 (q_fl (q_u2 R 17 0 (some 18)) 18 19 40) 17 1 (some 59)) (fun n h k => hI n (by omega) k) (fun n h k => hL n (by omega) k) (q_clu (by decide) (q_clf (by decide) (q_clu (by decide) (fun n h k => hR n (by omega) k)))) rfl ?_ 60 0 rfl
  refine q_blk2 (pc2 := 79) (ls2 := [(1, .int (nI 60)), (0, .ref 17)]) (st2 := [.int 60, .ref 17]) (h2 := (q_K0.take 119, I, L, q_fl (q_u2 (q_fl (q_u2 R 17 0 (some 18)) 18 19 40) 17 1 (some 59)) 59 60 60)) [(.aload_n 0, 0, 0, 0, 0, 0), (.bipush 60, 0, 0, 0, 60, 0)] (by decide +kernel) rfl rfl ⟨trivial, trivial, trivial⟩ ?_
  refine q_newi2 119 60 rfl (by decide) (by decide) rfl (by decide) (q_clx 120 (N := 119) (fun n h k => hI n (by omega) k)) (q_clx 120 (N := 119) (fun n h k => hL n (by omega) k)) (q_clx 120 (N := 119) (q_clf (by decide) (q_clu (by decide) (q_clf (by decide) (q_clu (by decide) (fun n h k => hR n (by omega) k)))))) (by decide +kernel) ?_
  refine q_blk2 (pc2 := 84) (ls2 := [(1, .int (nI 60)), (0, .ref 17)]) (st2 := []) (h2 := (q_K0.take 120, I, L, q_u2 (q_fl (q_u2 (q_fl (q_u2 R 17 0 (some 18)) 18 19 40) 17 1 (some 59)) 59 60 60) 17 2 (some 120))) [(.putfield 21, 0, 6, 2, 0, 0)] (by decide +kernel) rfl rfl ⟨rfl, trivial⟩ ?_
  exact q_vret rfl (by decide +kernel)
set_option maxRecDepth 100000 in
set_option maxHeartbeats 4000000 in
theorem n_X4_init {I : Nat → Nat → Int32} {L : Nat → Nat → Int64} {R : Nat → Nat → Option Nat} (hI : ∀ n, 122 < n → ∀ k, I n k = 0) (hL : ∀ n, 122 < n → ∀ k, L n k = 0) (hR : ∀ n, 122 < n → ∀ k, R n k = none) : q_Ca 32 [.ref 122] (q_K0.take 122, I, L, R) none (q_K0.take 124, I, L, q_u2 (q_u2 R 122 0 (some 123)) 122 1 (some 124)) := by
  refine q_Ca_of (by decide) (Nat.le_of_ble_eq_true rfl) ?_
  show q_Ex none 32 0 [(0, .ref 122)] [] (q_K0.take 122, I, L, R) _ _
  refine q_blk2 (pc2 := 1) (ls2 := [(0, .ref 122)]) (st2 := [.ref 122]) (h2 := (q_K0.take 122, I, L, R)) [(.aload_n 0, 0, 0, 0, 0, 0)] (by decide +kernel) rfl rfl ⟨trivial, trivial⟩ ?_
  refine q_objI (idx := 3) (by decide +kernel) (by decide +kernel) (by decide +kernel) ?_
  refine q_blk2 (pc2 := 8) (ls2 := [(0, .ref 122)]) (st2 := [.int 200, .ref 122]) (h2 := (q_K0.take 122, I, L, R)) [(.aload_n 0, 0, 0, 0, 0, 0), (.sipush 200, 0, 0, 0, 200, 0)] (by decide +kernel) rfl rfl ⟨trivial, trivial, trivial⟩ ?_
  refine q_newi2 122 200 rfl (by decide) (by decide) rfl (by decide) (q_clx 123 (N := 122) (fun n h k => hI n (by omega) k)) (q_clx 123 (N := 122) (fun n h k => hL n (by omega) k)) (q_clx 123 (N := 122) (fun n h k => hR n (by omega) k)) (by decide +kernel) ?_
  refine q_blk2 (pc2 := 17) (ls2 := [(0, .ref 122)]) (st2 := [.int 200, .ref 122]) (h2 := (q_K0.take 123, I, L, q_u2 R 122 0 (some 123))) [(.putfield 9, 0, 4, 0, 0, 0), (.aload_n 0, 0, 0, 0, 0, 0), (.sipush 200, 0, 0, 0, 200, 0)] (by decide +kernel) rfl rfl ⟨rfl, trivial, trivial, trivial⟩ ?_
  refine q_newi2 123 200 rfl (by decide) (by decide) rfl (by decide) (q_clx 124 (N := 123) (fun n h k => hI n (by omega) k)) (q_clx 124 (N := 123) (fun n h k => hL n (by omega) k)) (q_clx 124 (N := 123) (q_clu (by decide) (fun n h k => hR n (by omega) k))) (by decide +kernel) ?_
  refine q_blk2 (pc2 := 22) (ls2 := [(0, .ref 122)]) (st2 := []) (h2 := (q_K0.take 124, I, L, q_u2 (q_u2 R 122 0 (some 123)) 122 1 (some 124))) [(.putfield 15, 0, 4, 1, 0, 0)] (by decide +kernel) rfl rfl ⟨rfl, trivial⟩ ?_
  exact q_vret rfl (by decide +kernel)
set_option maxRecDepth 100000 in
set_option maxHeartbeats 4000000 in
theorem n_X9_init {I : Nat → Nat → Int32} {L : Nat → Nat → Int64} {R : Nat → Nat → Option Nat} (hI : ∀ n, 1 < n → ∀ k, I n k = 0) (hL : ∀ n, 1 < n → ∀ k, L n k = 0) (hR : ∀ n, 1 < n → ∀ k, R n k = none) : q_Ca 58 [.ref 1] (q_K0.take 1, I, L, R) none (q_K0.take 127, q_u2 (q_u2 I 4 0 (-4)) 1 9 0, q_u2 (q_u2 (q_u2 (q_u2 L 121 0 1) 121 3 1) 127 0 1) 127 3 1, q_u2 (q_u2 (q_u2 (q_u2 (q_u2 (q_u2 (q_u2 (q_u2 (q_u2 (q_fl (q_u2 (q_fl (q_u2 (q_u2 (q_u2 (q_u2 (q_u2 (q_u2 (q_u2 (q_u2 (q_u2 (q_u2 (q_u2 (q_u2 (q_u2 (q_u2 (q_u2 (q_u2 (q_u2 (q_u2 R 3 0 (some 4)) 3 1 (some 5)) 3 2 (some 6)) 3 3 (some 7)) 3 4 (some 8)) 3 5 (some 9)) 3 6 (some 10)) 3 7 (some 11)) 3 8 (some 12)) 2 0 (some 3)) 2 1 (some 13)) 2 2 (some 14)) 2 3 (some 15)) 2 4 (some 16)) 1 0 (some 2)) 1 1 (some 3)) 1 2 (some 4)) 17 0 (some 18)) 18 19 40) 17 1 (some 59)) 59 60 60) 17 2 (some 120)) 1 3 (some 17)) 1 4 (some 121)) 122 0 (some 123)) 122 1 (some 124)) 1 5 (some 122)) 1 6 (some 125)) 1 7 (some 126)) 1 8 (some 127)) := by
  refine q_Ca_of (by decide) (Nat.le_of_ble_eq_true rfl) ?_
  show q_Ex none 58 0 [(0, .ref 1)] [] (q_K0.take 1, I, L, R) _ _
  refine q_blk2 (pc2 := 1) (ls2 := [(0, .ref 1)]) (st2 := [.ref 1]) (h2 := (q_K0.take 1, I, L, R)) [(.aload_n 0, 0, 0, 0, 0, 0)] (by decide +kernel) rfl rfl ⟨trivial, trivial⟩ ?_
  refine q_objI (idx := 1) (by decide +kernel) (by decide +kernel) (by decide +kernel) ?_
  refine q_blk2 (pc2 := 5) (ls2 := [(0, .ref 1)]) (st2 := [.ref 1]) (h2 := (q_K0.take 1, I, L, R)) [(.aload_n 0, 0, 0, 0, 0, 0)] (by decide +kernel) rfl rfl ⟨trivial, trivial⟩ ?_
  refine q_new2 1 3 (idx := 7) rfl (by decide) (q_clx 2 (N := 1) (fun n h k => hI n (by omega) k)) (q_clx 2 (N := 1) (fun n h k => hL n (by omega) k)) (q_clx 2 (N := 1) (fun n h k => hR n (by omega) k)) (by decide +kernel) (by decide +kernel) ?_
  refine q_blk2 (pc2 := 9) (ls2 := [(0, .ref 1)]) (st2 := [.ref 2, .ref 2, .ref 1]) (h2 := (q_K0.take 2, I, L, R)) [(.dup, 0, 0, 0, 0, 0)] (by decide +kernel) rfl rfl ⟨trivial, trivial⟩ ?_
  refine q_callI (idx := 9) (h1 := (q_K0.take 16, q_u2 I 4 0 (-4), L, q_u2 (q_u2 (q_u2 (q_u2 (q_u2 (q_u2 (q_u2 (q_u2 (q_u2 (q_u2 (q_u2 (q_u2 (q_u2 (q_u2 R 3 0 (some 4)) 3 1 (some 5)) 3 2 (some 6)) 3 3 (some 7)) 3 4 (some 8)) 3 5 (some 9)) 3 6 (some 10)) 3 7 (some 11)) 3 8 (some 12)) 2 0 (some 3)) 2 1 (some 13)) 2 2 (some 14)) 2 3 (some 15)) 2 4 (some 16))) 24 2 2 [] (by decide +kernel) (by decide) (by decide +kernel) rfl (Nat.le_of_ble_eq_true rfl) (by decide +kernel) (n_X3_init (fun n h k => hI n (by omega) k) (fun n h k => hL n (by omega) k) (fun n h k => hR n (by omega) k)) ?_
  refine q_blk2 (pc2 := 38) (ls2 := [(0, .ref 1)]) (st2 := [.ref 1]) (h2 := (q_K0.take 16, q_u2 I 4 0 (-4), L, q_u2 (q_u2 (q_u2 (q_u2 (q_u2 (q_u2 (q_u2 (q_u2 (q_u2 (q_u2 (q_u2 (q_u2 (q_u2 (q_u2 (q_u2 (q_u2 (q_u2 R 3 0 (some 4)) 3 1 (some 5)) 3 2 (some 6)) 3 3 (some 7)) 3 4 (some 8)) 3 5 (some 9)) 3 6 (some 10)) 3 7 (some 11)) 3 8 (some 12)) 2 0 (some 3)) 2 1 (some 13)) 2 2 (some 14)) 2 3 (some 15)) 2 4 (some 16)) 1 0 (some 2)) 1 1 (some 3)) 1 2 (some 4))) [(.putfield 10, 0, 8, 0, 0, 0), (.aload_n 0, 0, 0, 0, 0, 0), (.aload_n 0, 0, 0, 0, 0, 0), (.getfield 10, 0, 8, 0, 0, 0), (.getfield 16, 0, 3, 0, 0, 0), (.putfield 20, 0, 8, 1, 0, 0), (.aload_n 0, 0, 0, 0, 0, 0), (.aload_n 0, 0, 0, 0, 0, 0), (.getfield 20, 0, 8, 1, 0, 0), (.getfield 21, 0, 0, 0, 0, 0), (.putfield 27, 0, 8, 2, 0, 0), (.aload_n 0, 0, 0, 0, 0, 0)] (by decide +kernel) rfl rfl ⟨rfl, trivial, trivial, rfl, rfl, rfl, trivial, trivial, rfl, rfl, rfl, trivial, trivial⟩ ?_
  refine q_new2 16 6 (idx := 28) rfl (by decide) (q_clx 17 (N := 16) (q_clu (by decide) (fun n h k => hI n (by omega) k))) (q_clx 17 (N := 16) (fun n h k => hL n (by omega) k)) (q_clx 17 (N := 16) (q_clu (by decide) (q_clu (by decide) (q_clu (by decide) (q_clu (by decide) (q_clu (by decide) (q_clu (by decide) (q_clu (by decide) (q_clu (by decide) (q_clu (by decide) (q_clu (by decide) (q_clu (by decide) (q_clu (by decide) (q_clu (by decide) (q_clu (by decide) (q_clu (by decide) (q_clu (by decide) (q_clu (by decide) (fun n h k => hR n (by omega) k))))))))))))))))))) (by decide +kernel) (by decide +kernel) ?_
  refine q_blk2 (pc2 := 42) (ls2 := [(0, .ref 1)]) (st2 := [.ref 17, .ref 17, .ref 1]) (h2 := (q_K0.take 17, q_u2 I 4 0 (-4), L, q_u2 (q_u2 (q_u2 (q_u2 (q_u2 (q_u2 (q_u2 (q_u2 (q_u2 (q_u2 (q_u2 (q_u2 (q_u2 (q_u2 (q_u2 (q_u2 (q_u2 R 3 0 (some 4)) 3 1 (some 5)) 3 2 (some 6)) 3 3 (some 7)) 3 4 (some 8)) 3 5 (some 9)) 3 6 (some 10)) 3 7 (some 11)) 3 8 (some 12)) 2 0 (some 3)) 2 1 (some 13)) 2 2 (some 14)) 2 3 (some 15)) 2 4 (some 16)) 1 0 (some 2)) 1 1 (some 3)) 1 2 (some 4))) [(.dup, 0, 0, 0, 0, 0)] (by decide +kernel) rfl rfl ⟨trivial, trivial⟩ ?_
  refine q_callI (idx := 30) (h1 := (q_K0.take 120, (q_u2 I 4 0 (-4)), L, q_u2 (q_fl (q_u2 (q_fl (q_u2 (q_u2 (q_u2 (q_u2 (q_u2 (q_u2 (q_u2 (q_u2 (q_u2 (q_u2 (q_u2 (q_u2 (q_u2 (q_u2 (q_u2 (q_u2 (q_u2 (q_u2 R 3 0 (some 4)) 3 1 (some 5)) 3 2 (some 6)) 3 3 (some 7)) 3 4 (some 8)) 3 5 (some 9)) 3 6 (some 10)) 3 7 (some 11)) 3 8 (some 12)) 2 0 (some 3)) 2 1 (some 13)) 2 2 (some 14)) 2 3 (some 15)) 2 4 (some 16)) 1 0 (some 2)) 1 1 (some 3)) 1 2 (some 4)) 17 0 (some 18)) 18 19 40) 17 1 (some 59)) 59 60 60) 17 2 (some 120))) 42 17 2 [] (by decide +kernel) (by decide) (by decide +kernel) rfl (Nat.le_of_ble_eq_true rfl) (by decide +kernel) (n_X6_init (q_clu (by decide) (fun n h k => hI n (by omega) k)) (fun n h k => hL n (by omega) k) (q_clu (by decide) (q_clu (by decide) (q_clu (by decide) (q_clu (by decide) (q_clu (by decide) (q_clu (by decide) (q_clu (by decide) (q_clu (by decide) (q_clu (by decide) (q_clu (by decide) (q_clu (by decide) (q_clu (by decide) (q_clu (by decide) (q_clu (by decide) (q_clu (by decide) (q_clu (by decide) (q_clu (by decide) (fun n h k => hR n (by omega) k))))))))))))))))))) ?_
  refine q_blk2 (pc2 := 49) (ls2 := [(0, .ref 1)]) (st2 := [.ref 1]) (h2 := (q_K0.take 120, (q_u2 I 4 0 (-4)), L, q_u2 (q_u2 (q_fl (q_u2 (q_fl (q_u2 (q_u2 (q_u2 (q_u2 (q_u2 (q_u2 (q_u2 (q_u2 (q_u2 (q_u2 (q_u2 (q_u2 (q_u2 (q_u2 (q_u2 (q_u2 (q_u2 (q_u2 R 3 0 (some 4)) 3 1 (some 5)) 3 2 (some 6)) 3 3 (some 7)) 3 4 (some 8)) 3 5 (some 9)) 3 6 (some 10)) 3 7 (some 11)) 3 8 (some 12)) 2 0 (some 3)) 2 1 (some 13)) 2 2 (some 14)) 2 3 (some 15)) 2 4 (some 16)) 1 0 (some 2)) 1 1 (some 3)) 1 2 (some 4)) 17 0 (some 18)) 18 19 40) 17 1 (some 59)) 59 60 60) 17 2 (some 120)) 1 3 (some 17))) [(.putfield 31, 0, 8, 3, 0, 0), (.aload_n 0, 0, 0, 0, 0, 0)] (by decide +kernel) rfl rfl ⟨rfl, trivial, trivial⟩ ?_
  refine q_new2 120 7 (idx := 35) rfl (by decide) (q_clx 121 (N := 120) (q_clu (by decide) (fun n h k => hI n (by omega) k))) (q_clx 121 (N := 120) (fun n h k => hL n (by omega) k)) (q_clx 121 (N := 120) (q_clu (by decide) (q_clu (by decide) (q_clf (by decide) (q_clu (by decide) (q_clf (by decide) (q_clu (by decide) (q_clu (by decide) (q_clu (by decide) (q_clu (by decide) (q_clu (by decide) (q_clu (by decide) (q_clu (by decide) (q_clu (by decide) (q_clu (by decide) (q_clu (by decide) (q_clu (by decide) (q_clu (by decide) (q_clu (by decide) (q_clu (by decide) (q_clu (by decide) (q_clu (by decide) (q_clu (by decide) (q_clu (by decide) (fun n h k => hR n (by omega) k))))))))))))))))))))))))) (by decide +kernel) (by decide +kernel) ?_
  refine q_blk2 (pc2 := 53) (ls2 := [(0, .ref 1)]) (st2 := [.ref 121, .ref 121, .ref 1]) (h2 := (q_K0.take 121, (q_u2 I 4 0 (-4)), L, q_u2 (q_u2 (q_fl (q_u2 (q_fl (q_u2 (q_u2 (q_u2 (q_u2 (q_u2 (q_u2 (q_u2 (q_u2 (q_u2 (q_u2 (q_u2 (q_u2 (q_u2 (q_u2 (q_u2 (q_u2 (q_u2 (q_u2 R 3 0 (some 4)) 3 1 (some 5)) 3 2 (some 6)) 3 3 (some 7)) 3 4 (some 8)) 3 5 (some 9)) 3 6 (some 10)) 3 7 (some 11)) 3 8 (some 12)) 2 0 (some 3)) 2 1 (some 13)) 2 2 (some 14)) 2 3 (some 15)) 2 4 (some 16)) 1 0 (some 2)) 1 1 (some 3)) 1 2 (some 4)) 17 0 (some 18)) 18 19 40) 17 1 (some 59)) 59 60 60) 17 2 (some 120)) 1 3 (some 17))) [(.dup, 0, 0, 0, 0, 0)] (by decide +kernel) rfl rfl ⟨trivial, trivial⟩ ?_
  refine q_callI (idx := 37) (h1 := (q_K0.take 121, (q_u2 I 4 0 (-4)), q_u2 (q_u2 L 121 0 1) 121 3 1, q_u2 (q_u2 (q_fl (q_u2 (q_fl (q_u2 (q_u2 (q_u2 (q_u2 (q_u2 (q_u2 (q_u2 (q_u2 (q_u2 (q_u2 (q_u2 (q_u2 (q_u2 (q_u2 (q_u2 (q_u2 (q_u2 (q_u2 R 3 0 (some 4)) 3 1 (some 5)) 3 2 (some 6)) 3 3 (some 7)) 3 4 (some 8)) 3 5 (some 9)) 3 6 (some 10)) 3 7 (some 11)) 3 8 (some 12)) 2 0 (some 3)) 2 1 (some 13)) 2 2 (some 14)) 2 3 (some 15)) 2 4 (some 16)) 1 0 (some 2)) 1 1 (some 3)) 1 2 (some 4)) 17 0 (some 18)) 18 19 40) 17 1 (some 59)) 59 60 60) 17 2 (some 120)) 1 3 (some 17))) 52 121 2 [] (by decide +kernel) (by decide) (by decide +kernel) rfl (Nat.le_of_ble_eq_true rfl) (by decide +kernel) (n_X8_init rfl) ?_
  refine q_blk2 (pc2 := 60) (ls2 := [(0, .ref 1)]) (st2 := [.ref 1]) (h2 := (q_K0.take 121, (q_u2 I 4 0 (-4)), q_u2 (q_u2 L 121 0 1) 121 3 1, q_u2 (q_u2 (q_u2 (q_fl (q_u2 (q_fl (q_u2 (q_u2 (q_u2 (q_u2 (q_u2 (q_u2 (q_u2 (q_u2 (q_u2 (q_u2 (q_u2 (q_u2 (q_u2 (q_u2 (q_u2 (q_u2 (q_u2 (q_u2 R 3 0 (some 4)) 3 1 (some 5)) 3 2 (some 6)) 3 3 (some 7)) 3 4 (some 8)) 3 5 (some 9)) 3 6 (some 10)) 3 7 (some 11)) 3 8 (some 12)) 2 0 (some 3)) 2 1 (some 13)) 2 2 (some 14)) 2 3 (some 15)) 2 4 (some 16)) 1 0 (some 2)) 1 1 (some 3)) 1 2 (some 4)) 17 0 (some 18)) 18 19 40) 17 1 (some 59)) 59 60 60) 17 2 (some 120)) 1 3 (some 17)) 1 4 (some 121))) [(.putfield 38, 0, 8, 4, 0, 0), (.aload_n 0, 0, 0, 0, 0, 0)] (by decide +kernel) rfl rfl ⟨rfl, trivial, trivial⟩ ?_
  refine q_new2 121 4 (idx := 42) rfl (by decide) (q_clx 122 (N := 121) (q_clu (by decide) (fun n h k => hI n (by omega) k))) (q_clx 122 (N := 121) (q_clu (by decide) (q_clu (by decide) (fun n h k => hL n (by omega) k)))) (q_clx 122 (N := 121) (q_clu (by decide) (q_clu (by decide) (q_clu (by decide) (q_clf (by decide) (q_clu (by decide) (q_clf (by decide) (q_clu (by decide) (q_clu (by decide) (q_clu (by decide) (q_clu (by decide) (q_clu (by decide) (q_clu (by decide) (q_clu (by decide) (q_clu (by decide) (q_clu (by decide) (q_clu (by decide) (q_clu (by decide) (q_clu (by decide) (q_clu (by decide) (q_clu (by decide) (q_clu (by decide) (q_clu (by decide) (q_clu (by decide) (q_clu (by decide) (fun n h k => hR n (by omega) k)))))))))))))))))))))))))) (by decide +kernel) (by decide +kernel) ?_
  refine q_blk2 (pc2 := 64) (ls2 := [(0, .ref 1)]) (st2 := [.ref 122, .ref 122, .ref 1]) (h2 := (q_K0.take 122, (q_u2 I 4 0 (-4)), q_u2 (q_u2 L 121 0 1) 121 3 1, q_u2 (q_u2 (q_u2 (q_fl (q_u2 (q_fl (q_u2 (q_u2 (q_u2 (q_u2 (q_u2 (q_u2 (q_u2 (q_u2 (q_u2 (q_u2 (q_u2 (q_u2 (q_u2 (q_u2 (q_u2 (q_u2 (q_u2 (q_u2 R 3 0 (some 4)) 3 1 (some 5)) 3 2 (some 6)) 3 3 (some 7)) 3 4 (some 8)) 3 5 (some 9)) 3 6 (some 10)) 3 7 (some 11)) 3 8 (some 12)) 2 0 (some 3)) 2 1 (some 13)) 2 2 (some 14)) 2 3 (some 15)) 2 4 (some 16)) 1 0 (some 2)) 1 1 (some 3)) 1 2 (some 4)) 17 0 (some 18)) 18 19 40) 17 1 (some 59)) 59 60 60) 17 2 (some 120)) 1 3 (some 17)) 1 4 (some 121))) [(.dup, 0, 0, 0, 0, 0)] (by decide +kernel) rfl rfl ⟨trivial, trivial⟩ ?_
  refine q_callI (idx := 44) (h1 := (q_K0.take 124, (q_u2 I 4 0 (-4)), (q_u2 (q_u2 L 121 0 1) 121 3 1), q_u2 (q_u2 (q_u2 (q_u2 (q_u2 (q_fl (q_u2 (q_fl (q_u2 (q_u2 (q_u2 (q_u2 (q_u2 (q_u2 (q_u2 (q_u2 (q_u2 (q_u2 (q_u2 (q_u2 (q_u2 (q_u2 (q_u2 (q_u2 (q_u2 (q_u2 R 3 0 (some 4)) 3 1 (some 5)) 3 2 (some 6)) 3 3 (some 7)) 3 4 (some 8)) 3 5 (some 9)) 3 6 (some 10)) 3 7 (some 11)) 3 8 (some 12)) 2 0 (some 3)) 2 1 (some 13)) 2 2 (some 14)) 2 3 (some 15)) 2 4 (some 16)) 1 0 (some 2)) 1 1 (some 3)) 1 2 (some 4)) 17 0 (some 18)) 18 19 40) 17 1 (some 59)) 59 60 60) 17 2 (some 120)) 1 3 (some 17)) 1 4 (some 121)) 122 0 (some 123)) 122 1 (some 124))) 32 122 2 [] (by decide +kernel) (by decide) (by decide +kernel) rfl (Nat.le_of_ble_eq_true rfl) (by decide +kernel) (n_X4_init (q_clu (by decide) (fun n h k => hI n (by omega) k)) (q_clu (by decide) (q_clu (by decide) (fun n h k => hL n (by omega) k))) (q_clu (by decide) (q_clu (by decide) (q_clu (by decide) (q_clf (by decide) (q_clu (by decide) (q_clf (by decide) (q_clu (by decide) (q_clu (by decide) (q_clu (by decide) (q_clu (by decide) (q_clu (by decide) (q_clu (by decide) (q_clu (by decide) (q_clu (by decide) (q_clu (by decide) (q_clu (by decide) (q_clu (by decide) (q_clu (by decide) (q_clu (by decide) (q_clu (by decide) (q_clu (by decide) (q_clu (by decide) (q_clu (by decide) (q_clu (by decide) (fun n h k => hR n (by omega) k)))))))))))))))))))))))))) ?_
  refine q_blk2 (pc2 := 71) (ls2 := [(0, .ref 1)]) (st2 := [.ref 1]) (h2 := (q_K0.take 124, (q_u2 I 4 0 (-4)), (q_u2 (q_u2 L 121 0 1) 121 3 1), q_u2 (q_u2 (q_u2 (q_u2 (q_u2 (q_u2 (q_fl (q_u2 (q_fl (q_u2 (q_u2 (q_u2 (q_u2 (q_u2 (q_u2 (q_u2 (q_u2 (q_u2 (q_u2 (q_u2 (q_u2 (q_u2 (q_u2 (q_u2 (q_u2 (q_u2 (q_u2 R 3 0 (some 4)) 3 1 (some 5)) 3 2 (some 6)) 3 3 (some 7)) 3 4 (some 8)) 3 5 (some 9)) 3 6 (some 10)) 3 7 (some 11)) 3 8 (some 12)) 2 0 (some 3)) 2 1 (some 13)) 2 2 (some 14)) 2 3 (some 15)) 2 4 (some 16)) 1 0 (some 2)) 1 1 (some 3)) 1 2 (some 4)) 17 0 (some 18)) 18 19 40) 17 1 (some 59)) 59 60 60) 17 2 (some 120)) 1 3 (some 17)) 1 4 (some 121)) 122 0 (some 123)) 122 1 (some 124)) 1 5 (some 122))) [(.putfield 45, 0, 8, 5, 0, 0), (.aload_n 0, 0, 0, 0, 0, 0)] (by decide +kernel) rfl rfl ⟨rfl, trivial, trivial⟩ ?_
  refine q_new2 124 5 (idx := 49) rfl (by decide) (q_clx 125 (N := 124) (q_clu (by decide) (fun n h k => hI n (by omega) k))) (q_clx 125 (N := 124) (q_clu (by decide) (q_clu (by decide) (fun n h k => hL n (by omega) k)))) (q_clx 125 (N := 124) (q_clu (by decide) (q_clu (by decide) (q_clu (by decide) (q_clu (by decide) (q_clu (by decide) (q_clu (by decide) (q_clf (by decide) (q_clu (by decide) (q_clf (by decide) (q_clu (by decide) (q_clu (by decide) (q_clu (by decide) (q_clu (by decide) (q_clu (by decide) (q_clu (by decide) (q_clu (by decide) (q_clu (by decide) (q_clu (by decide) (q_clu (by decide) (q_clu (by decide) (q_clu (by decide) (q_clu (by decide) (q_clu (by decide) (q_clu (by decide) (q_clu (by decide) (q_clu (by decide) (q_clu (by decide) (fun n h k => hR n (by omega) k))))))))))))))))))))))))))))) (by decide +kernel) (by decide +kernel) ?_
  refine q_blk2 (pc2 := 75) (ls2 := [(0, .ref 1)]) (st2 := [.ref 125, .ref 125, .ref 1]) (h2 := (q_K0.take 125, (q_u2 I 4 0 (-4)), (q_u2 (q_u2 L 121 0 1) 121 3 1), q_u2 (q_u2 (q_u2 (q_u2 (q_u2 (q_u2 (q_fl (q_u2 (q_fl (q_u2 (q_u2 (q_u2 (q_u2 (q_u2 (q_u2 (q_u2 (q_u2 (q_u2 (q_u2 (q_u2 (q_u2 (q_u2 (q_u2 (q_u2 (q_u2 (q_u2 (q_u2 R 3 0 (some 4)) 3 1 (some 5)) 3 2 (some 6)) 3 3 (some 7)) 3 4 (some 8)) 3 5 (some 9)) 3 6 (some 10)) 3 7 (some 11)) 3 8 (some 12)) 2 0 (some 3)) 2 1 (some 13)) 2 2 (some 14)) 2 3 (some 15)) 2 4 (some 16)) 1 0 (some 2)) 1 1 (some 3)) 1 2 (some 4)) 17 0 (some 18)) 18 19 40) 17 1 (some 59)) 59 60 60) 17 2 (some 120)) 1 3 (some 17)) 1 4 (some 121)) 122 0 (some 123)) 122 1 (some 124)) 1 5 (some 122))) [(.dup, 0, 0, 0, 0, 0)] (by decide +kernel) rfl rfl ⟨trivial, trivial⟩ ?_
  refine q_callI (idx := 51) (h1 := (q_K0.take 125, (q_u2 I 4 0 (-4)), (q_u2 (q_u2 L 121 0 1) 121 3 1), q_u2 (q_u2 (q_u2 (q_u2 (q_u2 (q_u2 (q_fl (q_u2 (q_fl (q_u2 (q_u2 (q_u2 (q_u2 (q_u2 (q_u2 (q_u2 (q_u2 (q_u2 (q_u2 (q_u2 (q_u2 (q_u2 (q_u2 (q_u2 (q_u2 (q_u2 (q_u2 R 3 0 (some 4)) 3 1 (some 5)) 3 2 (some 6)) 3 3 (some 7)) 3 4 (some 8)) 3 5 (some 9)) 3 6 (some 10)) 3 7 (some 11)) 3 8 (some 12)) 2 0 (some 3)) 2 1 (some 13)) 2 2 (some 14)) 2 3 (some 15)) 2 4 (some 16)) 1 0 (some 2)) 1 1 (some 3)) 1 2 (some 4)) 17 0 (some 18)) 18 19 40) 17 1 (some 59)) 59 60 60) 17 2 (some 120)) 1 3 (some 17)) 1 4 (some 121)) 122 0 (some 123)) 122 1 (some 124)) 1 5 (some 122))) 36 125 3 [] (by decide +kernel) (by decide) (by decide +kernel) rfl (Nat.le_of_ble_eq_true rfl) (by decide +kernel) (n_X5_init) ?_
  refine q_blk2 (pc2 := 82) (ls2 := [(0, .ref 1)]) (st2 := [.ref 1]) (h2 := (q_K0.take 125, (q_u2 I 4 0 (-4)), (q_u2 (q_u2 L 121 0 1) 121 3 1), q_u2 (q_u2 (q_u2 (q_u2 (q_u2 (q_u2 (q_u2 (q_fl (q_u2 (q_fl (q_u2 (q_u2 (q_u2 (q_u2 (q_u2 (q_u2 (q_u2 (q_u2 (q_u2 (q_u2 (q_u2 (q_u2 (q_u2 (q_u2 (q_u2 (q_u2 (q_u2 (q_u2 R 3 0 (some 4)) 3 1 (some 5)) 3 2 (some 6)) 3 3 (some 7)) 3 4 (some 8)) 3 5 (some 9)) 3 6 (some 10)) 3 7 (some 11)) 3 8 (some 12)) 2 0 (some 3)) 2 1 (some 13)) 2 2 (some 14)) 2 3 (some 15)) 2 4 (some 16)) 1 0 (some 2)) 1 1 (some 3)) 1 2 (some 4)) 17 0 (some 18)) 18 19 40) 17 1 (some 59)) 59 60 60) 17 2 (some 120)) 1 3 (some 17)) 1 4 (some 121)) 122 0 (some 123)) 122 1 (some 124)) 1 5 (some 122)) 1 6 (some 125))) [(.putfield 52, 0, 8, 6, 0, 0), (.aload_n 0, 0, 0, 0, 0, 0)] (by decide +kernel) rfl rfl ⟨rfl, trivial, trivial⟩ ?_
  refine q_new2 125 1 (idx := 56) rfl (by decide) (q_clx 126 (N := 125) (q_clu (by decide) (fun n h k => hI n (by omega) k))) (q_clx 126 (N := 125) (q_clu (by decide) (q_clu (by decide) (fun n h k => hL n (by omega) k)))) (q_clx 126 (N := 125) (q_clu (by decide) (q_clu (by decide) (q_clu (by decide) (q_clu (by decide) (q_clu (by decide) (q_clu (by decide) (q_clu (by decide) (q_clf (by decide) (q_clu (by decide) (q_clf (by decide) (q_clu (by decide) (q_clu (by decide) (q_clu (by decide) (q_clu (by decide) (q_clu (by decide) (q_clu (by decide) (q_clu (by decide) (q_clu (by decide) (q_clu (by decide) (q_clu (by decide) (q_clu (by decide) (q_clu (by decide) (q_clu (by decide) (q_clu (by decide) (q_clu (by decide) (q_clu (by decide) (q_clu (by decide) (q_clu (by decide) (fun n h k => hR n (by omega) k)))))))))))))))))))))))))))))) (by decide +kernel) (by decide +kernel) ?_
  refine q_blk2 (pc2 := 86) (ls2 := [(0, .ref 1)]) (st2 := [.ref 126, .ref 126, .ref 1]) (h2 := (q_K0.take 126, (q_u2 I 4 0 (-4)), (q_u2 (q_u2 L 121 0 1) 121 3 1), q_u2 (q_u2 (q_u2 (q_u2 (q_u2 (q_u2 (q_u2 (q_fl (q_u2 (q_fl (q_u2 (q_u2 (q_u2 (q_u2 (q_u2 (q_u2 (q_u2 (q_u2 (q_u2 (q_u2 (q_u2 (q_u2 (q_u2 (q_u2 (q_u2 (q_u2 (q_u2 (q_u2 R 3 0 (some 4)) 3 1 (some 5)) 3 2 (some 6)) 3 3 (some 7)) 3 4 (some 8)) 3 5 (some 9)) 3 6 (some 10)) 3 7 (some 11)) 3 8 (some 12)) 2 0 (some 3)) 2 1 (some 13)) 2 2 (some 14)) 2 3 (some 15)) 2 4 (some 16)) 1 0 (some 2)) 1 1 (some 3)) 1 2 (some 4)) 17 0 (some 18)) 18 19 40) 17 1 (some 59)) 59 60 60) 17 2 (some 120)) 1 3 (some 17)) 1 4 (some 121)) 122 0 (some 123)) 122 1 (some 124)) 1 5 (some 122)) 1 6 (some 125))) [(.dup, 0, 0, 0, 0, 0)] (by decide +kernel) rfl rfl ⟨trivial, trivial⟩ ?_
  refine q_callI (idx := 58) (h1 := (q_K0.take 126, (q_u2 I 4 0 (-4)), (q_u2 (q_u2 L 121 0 1) 121 3 1), q_u2 (q_u2 (q_u2 (q_u2 (q_u2 (q_u2 (q_u2 (q_fl (q_u2 (q_fl (q_u2 (q_u2 (q_u2 (q_u2 (q_u2 (q_u2 (q_u2 (q_u2 (q_u2 (q_u2 (q_u2 (q_u2 (q_u2 (q_u2 (q_u2 (q_u2 (q_u2 (q_u2 R 3 0 (some 4)) 3 1 (some 5)) 3 2 (some 6)) 3 3 (some 7)) 3 4 (some 8)) 3 5 (some 9)) 3 6 (some 10)) 3 7 (some 11)) 3 8 (some 12)) 2 0 (some 3)) 2 1 (some 13)) 2 2 (some 14)) 2 3 (some 15)) 2 4 (some 16)) 1 0 (some 2)) 1 1 (some 3)) 1 2 (some 4)) 17 0 (some 18)) 18 19 40) 17 1 (some 59)) 59 60 60) 17 2 (some 120)) 1 3 (some 17)) 1 4 (some 121)) 122 0 (some 123)) 122 1 (some 124)) 1 5 (some 122)) 1 6 (some 125))) 11 126 3 [] (by decide +kernel) (by decide) (by decide +kernel) rfl (Nat.le_of_ble_eq_true rfl) (by decide +kernel) (n_X1_init) ?_
  refine q_blk2 (pc2 := 93) (ls2 := [(0, .ref 1)]) (st2 := [.ref 1]) (h2 := (q_K0.take 126, (q_u2 I 4 0 (-4)), (q_u2 (q_u2 L 121 0 1) 121 3 1), q_u2 (q_u2 (q_u2 (q_u2 (q_u2 (q_u2 (q_u2 (q_u2 (q_fl (q_u2 (q_fl (q_u2 (q_u2 (q_u2 (q_u2 (q_u2 (q_u2 (q_u2 (q_u2 (q_u2 (q_u2 (q_u2 (q_u2 (q_u2 (q_u2 (q_u2 (q_u2 (q_u2 (q_u2 R 3 0 (some 4)) 3 1 (some 5)) 3 2 (some 6)) 3 3 (some 7)) 3 4 (some 8)) 3 5 (some 9)) 3 6 (some 10)) 3 7 (some 11)) 3 8 (some 12)) 2 0 (some 3)) 2 1 (some 13)) 2 2 (some 14)) 2 3 (some 15)) 2 4 (some 16)) 1 0 (some 2)) 1 1 (some 3)) 1 2 (some 4)) 17 0 (some 18)) 18 19 40) 17 1 (some 59)) 59 60 60) 17 2 (some 120)) 1 3 (some 17)) 1 4 (some 121)) 122 0 (some 123)) 122 1 (some 124)) 1 5 (some 122)) 1 6 (some 125)) 1 7 (some 126))) [(.putfield 59, 0, 8, 7, 0, 0), (.aload_n 0, 0, 0, 0, 0, 0)] (by decide +kernel) rfl rfl ⟨rfl, trivial, trivial⟩ ?_
  refine q_new2 126 7 (idx := 35) rfl (by decide) (q_clx 127 (N := 126) (q_clu (by decide) (fun n h k => hI n (by omega) k))) (q_clx 127 (N := 126) (q_clu (by decide) (q_clu (by decide) (fun n h k => hL n (by omega) k)))) (q_clx 127 (N := 126) (q_clu (by decide) (q_clu (by decide) (q_clu (by decide) (q_clu (by decide) (q_clu (by decide) (q_clu (by decide) (q_clu (by decide) (q_clu (by decide) (q_clf (by decide) (q_clu (by decide) (q_clf (by decide) (q_clu (by decide) (q_clu (by decide) (q_clu (by decide) (q_clu (by decide) (q_clu (by decide) (q_clu (by decide) (q_clu (by decide) (q_clu (by decide) (q_clu (by decide) (q_clu (by decide) (q_clu (by decide) (q_clu (by decide) (q_clu (by decide) (q_clu (by decide) (q_clu (by decide) (q_clu (by decide) (q_clu (by decide) (q_clu (by decide) (fun n h k => hR n (by omega) k))))))))))))))))))))))))))))))) (by decide +kernel) (by decide +kernel) ?_
  refine q_blk2 (pc2 := 97) (ls2 := [(0, .ref 1)]) (st2 := [.ref 127, .ref 127, .ref 1]) (h2 := (q_K0.take 127, (q_u2 I 4 0 (-4)), (q_u2 (q_u2 L 121 0 1) 121 3 1), q_u2 (q_u2 (q_u2 (q_u2 (q_u2 (q_u2 (q_u2 (q_u2 (q_fl (q_u2 (q_fl (q_u2 (q_u2 (q_u2 (q_u2 (q_u2 (q_u2 (q_u2 (q_u2 (q_u2 (q_u2 (q_u2 (q_u2 (q_u2 (q_u2 (q_u2 (q_u2 (q_u2 (q_u2 R 3 0 (some 4)) 3 1 (some 5)) 3 2 (some 6)) 3 3 (some 7)) 3 4 (some 8)) 3 5 (some 9)) 3 6 (some 10)) 3 7 (some 11)) 3 8 (some 12)) 2 0 (some 3)) 2 1 (some 13)) 2 2 (some 14)) 2 3 (some 15)) 2 4 (some 16)) 1 0 (some 2)) 1 1 (some 3)) 1 2 (some 4)) 17 0 (some 18)) 18 19 40) 17 1 (some 59)) 59 60 60) 17 2 (some 120)) 1 3 (some 17)) 1 4 (some 121)) 122 0 (some 123)) 122 1 (some 124)) 1 5 (some 122)) 1 6 (some 125)) 1 7 (some 126))) [(.dup, 0, 0, 0, 0, 0)] (by decide +kernel) rfl rfl ⟨trivial, trivial⟩ ?_
  refine q_callI (idx := 37) (h1 := (q_K0.take 127, (q_u2 I 4 0 (-4)), q_u2 (q_u2 (q_u2 (q_u2 L 121 0 1) 121 3 1) 127 0 1) 127 3 1, q_u2 (q_u2 (q_u2 (q_u2 (q_u2 (q_u2 (q_u2 (q_u2 (q_fl (q_u2 (q_fl (q_u2 (q_u2 (q_u2 (q_u2 (q_u2 (q_u2 (q_u2 (q_u2 (q_u2 (q_u2 (q_u2 (q_u2 (q_u2 (q_u2 (q_u2 (q_u2 (q_u2 (q_u2 R 3 0 (some 4)) 3 1 (some 5)) 3 2 (some 6)) 3 3 (some 7)) 3 4 (some 8)) 3 5 (some 9)) 3 6 (some 10)) 3 7 (some 11)) 3 8 (some 12)) 2 0 (some 3)) 2 1 (some 13)) 2 2 (some 14)) 2 3 (some 15)) 2 4 (some 16)) 1 0 (some 2)) 1 1 (some 3)) 1 2 (some 4)) 17 0 (some 18)) 18 19 40) 17 1 (some 59)) 59 60 60) 17 2 (some 120)) 1 3 (some 17)) 1 4 (some 121)) 122 0 (some 123)) 122 1 (some 124)) 1 5 (some 122)) 1 6 (some 125)) 1 7 (some 126))) 52 127 2 [] (by decide +kernel) (by decide) (by decide +kernel) rfl (Nat.le_of_ble_eq_true rfl) (by decide +kernel) (n_X8_init rfl) ?_
  refine q_blk2 (pc2 := 108) (ls2 := [(0, .ref 1)]) (st2 := []) (h2 := (q_K0.take 127, q_u2 (q_u2 I 4 0 (-4)) 1 9 0, q_u2 (q_u2 (q_u2 (q_u2 L 121 0 1) 121 3 1) 127 0 1) 127 3 1, q_u2 (q_u2 (q_u2 (q_u2 (q_u2 (q_u2 (q_u2 (q_u2 (q_u2 (q_fl (q_u2 (q_fl (q_u2 (q_u2 (q_u2 (q_u2 (q_u2 (q_u2 (q_u2 (q_u2 (q_u2 (q_u2 (q_u2 (q_u2 (q_u2 (q_u2 (q_u2 (q_u2 (q_u2 (q_u2 R 3 0 (some 4)) 3 1 (some 5)) 3 2 (some 6)) 3 3 (some 7)) 3 4 (some 8)) 3 5 (some 9)) 3 6 (some 10)) 3 7 (some 11)) 3 8 (some 12)) 2 0 (some 3)) 2 1 (some 13)) 2 2 (some 14)) 2 3 (some 15)) 2 4 (some 16)) 1 0 (some 2)) 1 1 (some 3)) 1 2 (some 4)) 17 0 (some 18)) 18 19 40) 17 1 (some 59)) 59 60 60) 17 2 (some 120)) 1 3 (some 17)) 1 4 (some 121)) 122 0 (some 123)) 122 1 (some 124)) 1 5 (some 122)) 1 6 (some 125)) 1 7 (some 126)) 1 8 (some 127))) [(.putfield 63, 0, 8, 8, 0, 0), (.aload_n 0, 0, 0, 0, 0, 0), (.iconst 0, 0, 0, 0, 0, 0), (.putfield 66, 0, 8, 9, 0, 0)] (by decide +kernel) rfl rfl ⟨rfl, trivial, trivial, ⟨rfl, rfl, rfl⟩, trivial⟩ ?_
  exact q_vret rfl (by decide +kernel)
