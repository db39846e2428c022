section
-- ===== PART A: goes FIRST, ahead of the names: the tables' words, and 'selects' of the private methods out of them =====
/-- a private method of a class that the tables say can be made, by its rows of tables_1 -/
def lw_okq (q : MethodName × Nat) : Prop := (q.1.cls ≠ "java/lang/invoke/MethodHandle" ∧ q.1.cls ≠ "java/lang/invoke/VarHandle") ∧ Cond.instantiable q.1.cls q.2 ∈ tables_1 ∧ Cond.privateMethod q.1 ∈ tables_1 ∧ Cond.instanceMethod q.1 ∈ tables_1
theorem lw_p0 : lw_okq (⟨"RootForms", "refuse", "(I)I"⟩, 10) := ⟨⟨by decide +kernel, by decide +kernel⟩, List.mem_of_getElem? (i := 14) (by decide +kernel), List.mem_of_getElem? (i := 333) (by decide +kernel), List.mem_of_getElem? (i := 334) (by decide +kernel)⟩
theorem lw_p1 : lw_okq (⟨"RootForms", "accept", "(I)I"⟩, 10) := ⟨⟨by decide +kernel, by decide +kernel⟩, List.mem_of_getElem? (i := 14) (by decide +kernel), List.mem_of_getElem? (i := 371) (by decide +kernel), List.mem_of_getElem? (i := 372) (by decide +kernel)⟩
theorem lw_p2 : lw_okq (⟨"RootForms$ClassTable", "listLeast", "()V"⟩, 12) := ⟨⟨by decide +kernel, by decide +kernel⟩, List.mem_of_getElem? (i := 28) (by decide +kernel), List.mem_of_getElem? (i := 455) (by decide +kernel), List.mem_of_getElem? (i := 456) (by decide +kernel)⟩
theorem lw_p3 : lw_okq (⟨"RootForms$ClassTable", "listWalker", "()V"⟩, 12) := ⟨⟨by decide +kernel, by decide +kernel⟩, List.mem_of_getElem? (i := 28) (by decide +kernel), List.mem_of_getElem? (i := 465) (by decide +kernel), List.mem_of_getElem? (i := 466) (by decide +kernel)⟩
theorem lw_p4 : lw_okq (⟨"RootForms$ClassTable", "numberClasses", "()V"⟩, 12) := ⟨⟨by decide +kernel, by decide +kernel⟩, List.mem_of_getElem? (i := 28) (by decide +kernel), List.mem_of_getElem? (i := 470) (by decide +kernel), List.mem_of_getElem? (i := 471) (by decide +kernel)⟩
theorem lw_p5 : lw_okq (⟨"RootForms$ClassTable", "markRing", "(II)V"⟩, 12) := ⟨⟨by decide +kernel, by decide +kernel⟩, List.mem_of_getElem? (i := 28) (by decide +kernel), List.mem_of_getElem? (i := 474) (by decide +kernel), List.mem_of_getElem? (i := 475) (by decide +kernel)⟩
theorem lw_p6 : lw_okq (⟨"RootForms$ClassTable", "indexOf", "(JJ)I"⟩, 12) := ⟨⟨by decide +kernel, by decide +kernel⟩, List.mem_of_getElem? (i := 28) (by decide +kernel), List.mem_of_getElem? (i := 480) (by decide +kernel), List.mem_of_getElem? (i := 481) (by decide +kernel)⟩
theorem lw_p7 : lw_okq (⟨"RootForms$GroupTable", "orderChain", "(I)V"⟩, 8) := ⟨⟨by decide +kernel, by decide +kernel⟩, List.mem_of_getElem? (i := 22) (by decide +kernel), List.mem_of_getElem? (i := 560) (by decide +kernel), List.mem_of_getElem? (i := 561) (by decide +kernel)⟩
theorem lw_p8 : lw_okq (⟨"RootForms$GroupTable", "findRings", "()V"⟩, 8) := ⟨⟨by decide +kernel, by decide +kernel⟩, List.mem_of_getElem? (i := 22) (by decide +kernel), List.mem_of_getElem? (i := 568) (by decide +kernel), List.mem_of_getElem? (i := 569) (by decide +kernel)⟩
theorem lw_p9 : lw_okq (⟨"RootForms$GroupTable", "countOrders", "(I)I"⟩, 8) := ⟨⟨by decide +kernel, by decide +kernel⟩, List.mem_of_getElem? (i := 22) (by decide +kernel), List.mem_of_getElem? (i := 572) (by decide +kernel), List.mem_of_getElem? (i := 573) (by decide +kernel)⟩
theorem lw_p10 : lw_okq (⟨"RootForms$GroupTable", "widenRing", "(II)V"⟩, 8) := ⟨⟨by decide +kernel, by decide +kernel⟩, List.mem_of_getElem? (i := 22) (by decide +kernel), List.mem_of_getElem? (i := 576) (by decide +kernel), List.mem_of_getElem? (i := 577) (by decide +kernel)⟩
theorem lw_p11 : lw_okq (⟨"RootForms$GroupTable", "listSquares", "()I"⟩, 8) := ⟨⟨by decide +kernel, by decide +kernel⟩, List.mem_of_getElem? (i := 22) (by decide +kernel), List.mem_of_getElem? (i := 580) (by decide +kernel), List.mem_of_getElem? (i := 581) (by decide +kernel)⟩
theorem lw_p12 : lw_okq (⟨"RootForms$GroupTable", "numberGenera", "(I)V"⟩, 8) := ⟨⟨by decide +kernel, by decide +kernel⟩, List.mem_of_getElem? (i := 22) (by decide +kernel), List.mem_of_getElem? (i := 584) (by decide +kernel), List.mem_of_getElem? (i := 585) (by decide +kernel)⟩
theorem lw_p13 : lw_okq (⟨"RootForms$Quotients", "begin", "(JJJ)V"⟩, 10) := ⟨⟨by decide +kernel, by decide +kernel⟩, List.mem_of_getElem? (i := 224) (by decide +kernel), List.mem_of_getElem? (i := 609) (by decide +kernel), List.mem_of_getElem? (i := 610) (by decide +kernel)⟩
theorem lw_p14 : lw_okq (⟨"RootForms$Quotients", "advance", "()V"⟩, 10) := ⟨⟨by decide +kernel, by decide +kernel⟩, List.mem_of_getElem? (i := 224) (by decide +kernel), List.mem_of_getElem? (i := 614) (by decide +kernel), List.mem_of_getElem? (i := 615) (by decide +kernel)⟩
theorem lw_p15 : lw_okq (⟨"RootForms$Quotients", "widenFraction", "()V"⟩, 10) := ⟨⟨by decide +kernel, by decide +kernel⟩, List.mem_of_getElem? (i := 224) (by decide +kernel), List.mem_of_getElem? (i := 619) (by decide +kernel), List.mem_of_getElem? (i := 620) (by decide +kernel)⟩
def lw_privs_1 : List (MethodName × Nat) := [(⟨"RootForms", "refuse", "(I)I"⟩, 10), (⟨"RootForms", "accept", "(I)I"⟩, 10), (⟨"RootForms$ClassTable", "listLeast", "()V"⟩, 12), (⟨"RootForms$ClassTable", "listWalker", "()V"⟩, 12), (⟨"RootForms$ClassTable", "numberClasses", "()V"⟩, 12), (⟨"RootForms$ClassTable", "markRing", "(II)V"⟩, 12), (⟨"RootForms$ClassTable", "indexOf", "(JJ)I"⟩, 12), (⟨"RootForms$GroupTable", "orderChain", "(I)V"⟩, 8), (⟨"RootForms$GroupTable", "findRings", "()V"⟩, 8), (⟨"RootForms$GroupTable", "countOrders", "(I)I"⟩, 8), (⟨"RootForms$GroupTable", "widenRing", "(II)V"⟩, 8), (⟨"RootForms$GroupTable", "listSquares", "()I"⟩, 8), (⟨"RootForms$GroupTable", "numberGenera", "(I)V"⟩, 8), (⟨"RootForms$Quotients", "begin", "(JJJ)V"⟩, 10), (⟨"RootForms$Quotients", "advance", "()V"⟩, 10), (⟨"RootForms$Quotients", "widenFraction", "()V"⟩, 10)]
theorem lw_r1 : ∀ q ∈ lw_privs_1, lw_okq q := List.forall_mem_cons.mpr ⟨lw_p0, List.forall_mem_cons.mpr ⟨lw_p1, List.forall_mem_cons.mpr ⟨lw_p2, List.forall_mem_cons.mpr ⟨lw_p3, List.forall_mem_cons.mpr ⟨lw_p4, List.forall_mem_cons.mpr ⟨lw_p5, List.forall_mem_cons.mpr ⟨lw_p6, List.forall_mem_cons.mpr ⟨lw_p7, List.forall_mem_cons.mpr ⟨lw_p8, List.forall_mem_cons.mpr ⟨lw_p9, List.forall_mem_cons.mpr ⟨lw_p10, List.forall_mem_cons.mpr ⟨lw_p11, List.forall_mem_cons.mpr ⟨lw_p12, List.forall_mem_cons.mpr ⟨lw_p13, List.forall_mem_cons.mpr ⟨lw_p14, List.forall_mem_cons.mpr ⟨lw_p15, fun _ h => absurd h List.not_mem_nil⟩⟩⟩⟩⟩⟩⟩⟩⟩⟩⟩⟩⟩⟩⟩⟩
theorem lw_p16 : lw_okq (⟨"RootForms", "countTaken", "(I)I"⟩, 10) := ⟨⟨by decide +kernel, by decide +kernel⟩, List.mem_of_getElem? (i := 14) (by decide +kernel), List.mem_of_getElem? (i := 656) (by decide +kernel), List.mem_of_getElem? (i := 657) (by decide +kernel)⟩
theorem lw_p17 : lw_okq (⟨"RootForms", "keepTaken", "(JJ)I"⟩, 10) := ⟨⟨by decide +kernel, by decide +kernel⟩, List.mem_of_getElem? (i := 14) (by decide +kernel), List.mem_of_getElem? (i := 662) (by decide +kernel), List.mem_of_getElem? (i := 663) (by decide +kernel)⟩
theorem lw_p18 : lw_okq (⟨"RootForms$Pairs", "isAhead", "(III)Z"⟩, 3) := ⟨⟨by decide +kernel, by decide +kernel⟩, List.mem_of_getElem? (i := 205) (by decide +kernel), List.mem_of_getElem? (i := 671) (by decide +kernel), List.mem_of_getElem? (i := 672) (by decide +kernel)⟩
theorem lw_p19 : lw_okq (⟨"RootForms", "countProper", "(II)I"⟩, 10) := ⟨⟨by decide +kernel, by decide +kernel⟩, List.mem_of_getElem? (i := 14) (by decide +kernel), List.mem_of_getElem? (i := 679) (by decide +kernel), List.mem_of_getElem? (i := 680) (by decide +kernel)⟩
theorem lw_p20 : lw_okq (⟨"RootForms", "countSquares", "(I)I"⟩, 10) := ⟨⟨by decide +kernel, by decide +kernel⟩, List.mem_of_getElem? (i := 14) (by decide +kernel), List.mem_of_getElem? (i := 692) (by decide +kernel), List.mem_of_getElem? (i := 693) (by decide +kernel)⟩
theorem lw_p21 : lw_okq (⟨"RootFormsModel", "becomes", "(I)V"⟩, 44) := ⟨⟨by decide +kernel, by decide +kernel⟩, List.mem_of_getElem? (i := 718) (by decide +kernel), List.mem_of_getElem? (i := 724) (by decide +kernel), List.mem_of_getElem? (i := 725) (by decide +kernel)⟩
theorem lw_p22 : lw_okq (⟨"RootFormsModel", "root0", "(J)J"⟩, 44) := ⟨⟨by decide +kernel, by decide +kernel⟩, List.mem_of_getElem? (i := 718) (by decide +kernel), List.mem_of_getElem? (i := 728) (by decide +kernel), List.mem_of_getElem? (i := 729) (by decide +kernel)⟩
theorem lw_p23 : lw_okq (⟨"RootFormsModel", "isForm", "(JJ)Z"⟩, 44) := ⟨⟨by decide +kernel, by decide +kernel⟩, List.mem_of_getElem? (i := 718) (by decide +kernel), List.mem_of_getElem? (i := 734) (by decide +kernel), List.mem_of_getElem? (i := 735) (by decide +kernel)⟩
theorem lw_p24 : lw_okq (⟨"RootFormsModel", "divisor", "(JJ)J"⟩, 44) := ⟨⟨by decide +kernel, by decide +kernel⟩, List.mem_of_getElem? (i := 718) (by decide +kernel), List.mem_of_getElem? (i := 739) (by decide +kernel), List.mem_of_getElem? (i := 740) (by decide +kernel)⟩
theorem lw_p25 : lw_okq (⟨"RootFormsModel", "abs", "(J)J"⟩, 44) := ⟨⟨by decide +kernel, by decide +kernel⟩, List.mem_of_getElem? (i := 718) (by decide +kernel), List.mem_of_getElem? (i := 743) (by decide +kernel), List.mem_of_getElem? (i := 744) (by decide +kernel)⟩
theorem lw_p26 : lw_okq (⟨"RootFormsModel", "isLeast", "()Z"⟩, 44) := ⟨⟨by decide +kernel, by decide +kernel⟩, List.mem_of_getElem? (i := 718) (by decide +kernel), List.mem_of_getElem? (i := 747) (by decide +kernel), List.mem_of_getElem? (i := 748) (by decide +kernel)⟩
theorem lw_p27 : lw_okq (⟨"RootFormsModel", "steps", "()V"⟩, 44) := ⟨⟨by decide +kernel, by decide +kernel⟩, List.mem_of_getElem? (i := 718) (by decide +kernel), List.mem_of_getElem? (i := 751) (by decide +kernel), List.mem_of_getElem? (i := 752) (by decide +kernel)⟩
theorem lw_p28 : lw_okq (⟨"RootFormsModel", "indexOf", "(JJ)I"⟩, 44) := ⟨⟨by decide +kernel, by decide +kernel⟩, List.mem_of_getElem? (i := 718) (by decide +kernel), List.mem_of_getElem? (i := 755) (by decide +kernel), List.mem_of_getElem? (i := 756) (by decide +kernel)⟩
theorem lw_p29 : lw_okq (⟨"RootFormsModel", "in", "(JJJ)Z"⟩, 44) := ⟨⟨by decide +kernel, by decide +kernel⟩, List.mem_of_getElem? (i := 718) (by decide +kernel), List.mem_of_getElem? (i := 899) (by decide +kernel), List.mem_of_getElem? (i := 900) (by decide +kernel)⟩
theorem lw_p30 : lw_okq (⟨"RootFormsModel", "no", "(I)I"⟩, 44) := ⟨⟨by decide +kernel, by decide +kernel⟩, List.mem_of_getElem? (i := 718) (by decide +kernel), List.mem_of_getElem? (i := 913) (by decide +kernel), List.mem_of_getElem? (i := 914) (by decide +kernel)⟩
theorem lw_p31 : lw_okq (⟨"RootFormsModel", "lay", "(I)V"⟩, 44) := ⟨⟨by decide +kernel, by decide +kernel⟩, List.mem_of_getElem? (i := 718) (by decide +kernel), List.mem_of_getElem? (i := 917) (by decide +kernel), List.mem_of_getElem? (i := 918) (by decide +kernel)⟩
def lw_privs_2 : List (MethodName × Nat) := [(⟨"RootForms", "countTaken", "(I)I"⟩, 10), (⟨"RootForms", "keepTaken", "(JJ)I"⟩, 10), (⟨"RootForms$Pairs", "isAhead", "(III)Z"⟩, 3), (⟨"RootForms", "countProper", "(II)I"⟩, 10), (⟨"RootForms", "countSquares", "(I)I"⟩, 10), (⟨"RootFormsModel", "becomes", "(I)V"⟩, 44), (⟨"RootFormsModel", "root0", "(J)J"⟩, 44), (⟨"RootFormsModel", "isForm", "(JJ)Z"⟩, 44), (⟨"RootFormsModel", "divisor", "(JJ)J"⟩, 44), (⟨"RootFormsModel", "abs", "(J)J"⟩, 44), (⟨"RootFormsModel", "isLeast", "()Z"⟩, 44), (⟨"RootFormsModel", "steps", "()V"⟩, 44), (⟨"RootFormsModel", "indexOf", "(JJ)I"⟩, 44), (⟨"RootFormsModel", "in", "(JJJ)Z"⟩, 44), (⟨"RootFormsModel", "no", "(I)I"⟩, 44), (⟨"RootFormsModel", "lay", "(I)V"⟩, 44)]
theorem lw_r2 : ∀ q ∈ lw_privs_2, lw_okq q := List.forall_mem_cons.mpr ⟨lw_p16, List.forall_mem_cons.mpr ⟨lw_p17, List.forall_mem_cons.mpr ⟨lw_p18, List.forall_mem_cons.mpr ⟨lw_p19, List.forall_mem_cons.mpr ⟨lw_p20, List.forall_mem_cons.mpr ⟨lw_p21, List.forall_mem_cons.mpr ⟨lw_p22, List.forall_mem_cons.mpr ⟨lw_p23, List.forall_mem_cons.mpr ⟨lw_p24, List.forall_mem_cons.mpr ⟨lw_p25, List.forall_mem_cons.mpr ⟨lw_p26, List.forall_mem_cons.mpr ⟨lw_p27, List.forall_mem_cons.mpr ⟨lw_p28, List.forall_mem_cons.mpr ⟨lw_p29, List.forall_mem_cons.mpr ⟨lw_p30, List.forall_mem_cons.mpr ⟨lw_p31, fun _ h => absurd h List.not_mem_nil⟩⟩⟩⟩⟩⟩⟩⟩⟩⟩⟩⟩⟩⟩⟩⟩
theorem lw_p32 : lw_okq (⟨"RootFormsModel", "act", "(I)V"⟩, 44) := ⟨⟨by decide +kernel, by decide +kernel⟩, List.mem_of_getElem? (i := 718) (by decide +kernel), List.mem_of_getElem? (i := 921) (by decide +kernel), List.mem_of_getElem? (i := 922) (by decide +kernel)⟩
theorem lw_p33 : lw_okq (⟨"RootFormsModel", "isPlace", "(I)Z"⟩, 44) := ⟨⟨by decide +kernel, by decide +kernel⟩, List.mem_of_getElem? (i := 718) (by decide +kernel), List.mem_of_getElem? (i := 929) (by decide +kernel), List.mem_of_getElem? (i := 930) (by decide +kernel)⟩
theorem lw_p34 : lw_okq (⟨"RootFormsModel", "take", "(I)V"⟩, 44) := ⟨⟨by decide +kernel, by decide +kernel⟩, List.mem_of_getElem? (i := 718) (by decide +kernel), List.mem_of_getElem? (i := 937) (by decide +kernel), List.mem_of_getElem? (i := 938) (by decide +kernel)⟩
theorem lw_p35 : lw_okq (⟨"RootFormsModel", "noSteps", "()V"⟩, 44) := ⟨⟨by decide +kernel, by decide +kernel⟩, List.mem_of_getElem? (i := 718) (by decide +kernel), List.mem_of_getElem? (i := 945) (by decide +kernel), List.mem_of_getElem? (i := 946) (by decide +kernel)⟩
theorem lw_p36 : lw_okq (⟨"RootFormsModel", "keepWay", "()V"⟩, 44) := ⟨⟨by decide +kernel, by decide +kernel⟩, List.mem_of_getElem? (i := 718) (by decide +kernel), List.mem_of_getElem? (i := 949) (by decide +kernel), List.mem_of_getElem? (i := 950) (by decide +kernel)⟩
theorem lw_p37 : lw_okq (⟨"RootFormsModel", "reduces", "()I"⟩, 44) := ⟨⟨by decide +kernel, by decide +kernel⟩, List.mem_of_getElem? (i := 718) (by decide +kernel), List.mem_of_getElem? (i := 957) (by decide +kernel), List.mem_of_getElem? (i := 958) (by decide +kernel)⟩
theorem lw_p38 : lw_okq (⟨"RootFormsModel", "classHere", "()I"⟩, 44) := ⟨⟨by decide +kernel, by decide +kernel⟩, List.mem_of_getElem? (i := 718) (by decide +kernel), List.mem_of_getElem? (i := 974) (by decide +kernel), List.mem_of_getElem? (i := 975) (by decide +kernel)⟩
theorem lw_p39 : lw_okq (⟨"RootFormsModel", "isClass", "(I)Z"⟩, 44) := ⟨⟨by decide +kernel, by decide +kernel⟩, List.mem_of_getElem? (i := 718) (by decide +kernel), List.mem_of_getElem? (i := 990) (by decide +kernel), List.mem_of_getElem? (i := 991) (by decide +kernel)⟩
theorem lw_p40 : lw_okq (⟨"RootFormsModel", "oneOf", "()I"⟩, 44) := ⟨⟨by decide +kernel, by decide +kernel⟩, List.mem_of_getElem? (i := 718) (by decide +kernel), List.mem_of_getElem? (i := 998) (by decide +kernel), List.mem_of_getElem? (i := 999) (by decide +kernel)⟩
theorem lw_p41 : lw_okq (⟨"RootFormsModel", "joined", "(II)I"⟩, 44) := ⟨⟨by decide +kernel, by decide +kernel⟩, List.mem_of_getElem? (i := 718) (by decide +kernel), List.mem_of_getElem? (i := 1006) (by decide +kernel), List.mem_of_getElem? (i := 1007) (by decide +kernel)⟩
theorem lw_p42 : lw_okq (⟨"RootFormsModel", "common", "(JJ)V"⟩, 44) := ⟨⟨by decide +kernel, by decide +kernel⟩, List.mem_of_getElem? (i := 718) (by decide +kernel), List.mem_of_getElem? (i := 1010) (by decide +kernel), List.mem_of_getElem? (i := 1011) (by decide +kernel)⟩
theorem lw_p43 : lw_okq (⟨"RootFormsModel", "orderOf", "(I)I"⟩, 44) := ⟨⟨by decide +kernel, by decide +kernel⟩, List.mem_of_getElem? (i := 718) (by decide +kernel), List.mem_of_getElem? (i := 1022) (by decide +kernel), List.mem_of_getElem? (i := 1023) (by decide +kernel)⟩
theorem lw_p44 : lw_okq (⟨"RootFormsModel", "findRings", "()V"⟩, 44) := ⟨⟨by decide +kernel, by decide +kernel⟩, List.mem_of_getElem? (i := 718) (by decide +kernel), List.mem_of_getElem? (i := 1030) (by decide +kernel), List.mem_of_getElem? (i := 1031) (by decide +kernel)⟩
theorem lw_p45 : lw_okq (⟨"RootFormsModel", "findGenera", "()I"⟩, 44) := ⟨⟨by decide +kernel, by decide +kernel⟩, List.mem_of_getElem? (i := 718) (by decide +kernel), List.mem_of_getElem? (i := 1038) (by decide +kernel), List.mem_of_getElem? (i := 1039) (by decide +kernel)⟩
theorem lw_p46 : lw_okq (⟨"RootFormsModel", "begin", "(JJJ)V"⟩, 44) := ⟨⟨by decide +kernel, by decide +kernel⟩, List.mem_of_getElem? (i := 718) (by decide +kernel), List.mem_of_getElem? (i := 1050) (by decide +kernel), List.mem_of_getElem? (i := 1051) (by decide +kernel)⟩
theorem lw_p47 : lw_okq (⟨"RootFormsModel", "goes", "()V"⟩, 44) := ⟨⟨by decide +kernel, by decide +kernel⟩, List.mem_of_getElem? (i := 718) (by decide +kernel), List.mem_of_getElem? (i := 1054) (by decide +kernel), List.mem_of_getElem? (i := 1055) (by decide +kernel)⟩
def lw_privs_3 : List (MethodName × Nat) := [(⟨"RootFormsModel", "act", "(I)V"⟩, 44), (⟨"RootFormsModel", "isPlace", "(I)Z"⟩, 44), (⟨"RootFormsModel", "take", "(I)V"⟩, 44), (⟨"RootFormsModel", "noSteps", "()V"⟩, 44), (⟨"RootFormsModel", "keepWay", "()V"⟩, 44), (⟨"RootFormsModel", "reduces", "()I"⟩, 44), (⟨"RootFormsModel", "classHere", "()I"⟩, 44), (⟨"RootFormsModel", "isClass", "(I)Z"⟩, 44), (⟨"RootFormsModel", "oneOf", "()I"⟩, 44), (⟨"RootFormsModel", "joined", "(II)I"⟩, 44), (⟨"RootFormsModel", "common", "(JJ)V"⟩, 44), (⟨"RootFormsModel", "orderOf", "(I)I"⟩, 44), (⟨"RootFormsModel", "findRings", "()V"⟩, 44), (⟨"RootFormsModel", "findGenera", "()I"⟩, 44), (⟨"RootFormsModel", "begin", "(JJJ)V"⟩, 44), (⟨"RootFormsModel", "goes", "()V"⟩, 44)]
theorem lw_r3 : ∀ q ∈ lw_privs_3, lw_okq q := List.forall_mem_cons.mpr ⟨lw_p32, List.forall_mem_cons.mpr ⟨lw_p33, List.forall_mem_cons.mpr ⟨lw_p34, List.forall_mem_cons.mpr ⟨lw_p35, List.forall_mem_cons.mpr ⟨lw_p36, List.forall_mem_cons.mpr ⟨lw_p37, List.forall_mem_cons.mpr ⟨lw_p38, List.forall_mem_cons.mpr ⟨lw_p39, List.forall_mem_cons.mpr ⟨lw_p40, List.forall_mem_cons.mpr ⟨lw_p41, List.forall_mem_cons.mpr ⟨lw_p42, List.forall_mem_cons.mpr ⟨lw_p43, List.forall_mem_cons.mpr ⟨lw_p44, List.forall_mem_cons.mpr ⟨lw_p45, List.forall_mem_cons.mpr ⟨lw_p46, List.forall_mem_cons.mpr ⟨lw_p47, fun _ h => absurd h List.not_mem_nil⟩⟩⟩⟩⟩⟩⟩⟩⟩⟩⟩⟩⟩⟩⟩⟩
theorem lw_p48 : lw_okq (⟨"RootFormsModel", "isRooted", "(I)Z"⟩, 44) := ⟨⟨by decide +kernel, by decide +kernel⟩, List.mem_of_getElem? (i := 718) (by decide +kernel), List.mem_of_getElem? (i := 1064) (by decide +kernel), List.mem_of_getElem? (i := 1065) (by decide +kernel)⟩
theorem lw_p49 : lw_okq (⟨"RootFormsModel", "put", "(IJJ)V"⟩, 44) := ⟨⟨by decide +kernel, by decide +kernel⟩, List.mem_of_getElem? (i := 718) (by decide +kernel), List.mem_of_getElem? (i := 1083) (by decide +kernel), List.mem_of_getElem? (i := 1084) (by decide +kernel)⟩
def lw_privs_4 : List (MethodName × Nat) := [(⟨"RootFormsModel", "isRooted", "(I)Z"⟩, 44), (⟨"RootFormsModel", "put", "(IJJ)V"⟩, 44)]
theorem lw_r4 : ∀ q ∈ lw_privs_4, lw_okq q := List.forall_mem_cons.mpr ⟨lw_p48, List.forall_mem_cons.mpr ⟨lw_p49, fun _ h => absurd h List.not_mem_nil⟩⟩
def lw_privs : List (MethodName × Nat) := lw_privs_1 ++ (lw_privs_2 ++ (lw_privs_3 ++ (lw_privs_4)))
def lw_tbl : List Cond := k2_sels lw_privs ++ tables_1
theorem lw_privs_ok : ∀ q ∈ lw_privs, lw_okq q := by
  show ∀ q ∈ lw_privs_1 ++ (lw_privs_2 ++ (lw_privs_3 ++ (lw_privs_4))), lw_okq q
  exact List.forall_mem_append.mpr ⟨lw_r1, List.forall_mem_append.mpr ⟨lw_r2, List.forall_mem_append.mpr ⟨lw_r3, lw_r4⟩⟩⟩
-- names
def RX0 : String := "RootForms$ClassTable"
def RX1 : String := "RootForms$Form"
def RX2 : String := "RootForms$Ground"
def RX3 : String := "RootForms$GroupTable"
def RX4 : String := "RootForms$Pairs"
def RX5 : String := "RootForms$Quotients"
def RX6 : String := "RootForms$Shelf"
def RX7 : String := "RootForms$Sums"
def RX8 : String := "RootForms$Way"
def RX9 : String := "RootForms"
def RX10 : String := "RootFormsModel"
def RJ9 : String := "java/lang/Math"
def RL : String := "RootFormsLaw"
def TX0 : u_T := fun k => match k with
  | 0 => ("RootForms$ClassTable", "ground", "LRootForms$Ground;", true)
  | 1 => ("RootForms$ClassTable", "as", "[I", true)
  | 2 => ("RootForms$ClassTable", "bs", "[I", true)
  | 3 => ("RootForms$ClassTable", "cs", "[I", true)
  | 4 => ("RootForms$ClassTable", "classAt", "[I", true)
  | 5 => ("RootForms$ClassTable", "heads", "[I", true)
  | 6 => ("RootForms$ClassTable", "walker", "LRootForms$Form;", true)
  | 7 => ("RootForms$ClassTable", "left", "LRootForms$Form;", true)
  | 8 => ("RootForms$ClassTable", "right", "LRootForms$Form;", true)
  | 9 => ("RootForms$ClassTable", "count", "I", false)
  | 10 => ("RootForms$ClassTable", "classCount", "I", false)
  | _ => ("RootForms$ClassTable", "madeFor", "I", false)
def tyX0 : Nat → FieldType := fun k => match k with
  | 0 => .object "RootForms$Ground"
  | 1 => .array .int
  | 2 => .array .int
  | 3 => .array .int
  | 4 => .array .int
  | 5 => .array .int
  | 6 => .object "RootForms$Form"
  | 7 => .object "RootForms$Form"
  | 8 => .object "RootForms$Form"
  | 9 => .int
  | 10 => .int
  | _ => .int
theorem nmX0 : ∀ a, a < 12 → ∀ b, b < 12 → a ≠ b → (TX0 a).2.1 ≠ (TX0 b).2.1 := by decide +kernel
theorem tyX0_ok : ∀ k, k < 12 → parseFieldDescriptor (TX0 k).2.2.1 = some (tyX0 k) := by decide +kernel
def TX1 : u_T := fun k => match k with
  | 0 => ("RootForms$Form", "a", "J", false)
  | 1 => ("RootForms$Form", "b", "J", false)
  | _ => ("RootForms$Form", "c", "J", false)
def tyX1 : Nat → FieldType := fun k => match k with
  | 0 => .long
  | 1 => .long
  | _ => .long
theorem nmX1 : ∀ a, a < 3 → ∀ b, b < 3 → a ≠ b → (TX1 a).2.1 ≠ (TX1 b).2.1 := by decide +kernel
theorem tyX1_ok : ∀ k, k < 3 → parseFieldDescriptor (TX1 k).2.2.1 = some (tyX1 k) := by decide +kernel
def TX2 : u_T := fun k => match k with
  | 0 => ("RootForms$Ground", "d", "I", false)
  | _ => ("RootForms$Ground", "\x72", "I", false)
def tyX2 : Nat → FieldType := fun k => match k with
  | 0 => .int
  | _ => .int
theorem nmX2 : ∀ a, a < 2 → ∀ b, b < 2 → a ≠ b → (TX2 a).2.1 ≠ (TX2 b).2.1 := by decide +kernel
theorem tyX2_ok : ∀ k, k < 2 → parseFieldDescriptor (TX2 k).2.2.1 = some (tyX2 k) := by decide +kernel
def TX3 : u_T := fun k => match k with
  | 0 => ("RootForms$GroupTable", "table", "LRootForms$ClassTable;", true)
  | 1 => ("RootForms$GroupTable", "orders", "[I", true)
  | 2 => ("RootForms$GroupTable", "genusOf", "[I", true)
  | 3 => ("RootForms$GroupTable", "chain", "[I", true)
  | 4 => ("RootForms$GroupTable", "rings", "[I", true)
  | 5 => ("RootForms$GroupTable", "ringCount", "I", false)
  | 6 => ("RootForms$GroupTable", "genusCount", "I", false)
  | _ => ("RootForms$GroupTable", "madeFor", "I", false)
def tyX3 : Nat → FieldType := fun k => match k with
  | 0 => .object "RootForms$ClassTable"
  | 1 => .array .int
  | 2 => .array .int
  | 3 => .array .int
  | 4 => .array .int
  | 5 => .int
  | 6 => .int
  | _ => .int
theorem nmX3 : ∀ a, a < 8 → ∀ b, b < 8 → a ≠ b → (TX3 a).2.1 ≠ (TX3 b).2.1 := by decide +kernel
theorem tyX3_ok : ∀ k, k < 8 → parseFieldDescriptor (TX3 k).2.2.1 = some (tyX3 k) := by decide +kernel
def TX4 : u_T := fun k => match k with
  | 0 => ("RootForms$Pairs", "xs", "[I", true)
  | 1 => ("RootForms$Pairs", "ys", "[I", true)
  | _ => ("RootForms$Pairs", "count", "I", false)
def tyX4 : Nat → FieldType := fun k => match k with
  | 0 => .array .int
  | 1 => .array .int
  | _ => .int
theorem nmX4 : ∀ a, a < 3 → ∀ b, b < 3 → a ≠ b → (TX4 a).2.1 ≠ (TX4 b).2.1 := by decide +kernel
theorem tyX4_ok : ∀ k, k < 3 → parseFieldDescriptor (TX4 k).2.2.1 = some (tyX4 k) := by decide +kernel
def TX5 : u_T := fun k => match k with
  | 0 => ("RootForms$Quotients", "n", "J", false)
  | 1 => ("RootForms$Quotients", "whole", "J", false)
  | 2 => ("RootForms$Quotients", "start", "J", false)
  | 3 => ("RootForms$Quotients", "divisor", "J", false)
  | 4 => ("RootForms$Quotients", "latest", "J", false)
  | 5 => ("RootForms$Quotients", "upper", "J", false)
  | 6 => ("RootForms$Quotients", "upperBefore", "J", false)
  | 7 => ("RootForms$Quotients", "lower", "J", false)
  | 8 => ("RootForms$Quotients", "lowerBefore", "J", false)
  | _ => ("RootForms$Quotients", "big", "Z", false)
def tyX5 : Nat → FieldType := fun k => match k with
  | 0 => .long
  | 1 => .long
  | 2 => .long
  | 3 => .long
  | 4 => .long
  | 5 => .long
  | 6 => .long
  | 7 => .long
  | 8 => .long
  | _ => .boolean
theorem nmX5 : ∀ a, a < 10 → ∀ b, b < 10 → a ≠ b → (TX5 a).2.1 ≠ (TX5 b).2.1 := by decide +kernel
theorem tyX5_ok : ∀ k, k < 10 → parseFieldDescriptor (TX5 k).2.2.1 = some (tyX5 k) := by decide +kernel
def TX6 : u_T := fun k => match k with
  | 0 => ("RootForms$Shelf", "forms", "[LRootForms$Form;", true)
  | 1 => ("RootForms$Shelf", "logForms", "[LRootForms$Form;", true)
  | 2 => ("RootForms$Shelf", "logPlaces", "[I", true)
  | 3 => ("RootForms$Shelf", "count", "I", false)
  | 4 => ("RootForms$Shelf", "acts", "I", false)
  | _ => ("RootForms$Shelf", "next", "I", false)
def tyX6 : Nat → FieldType := fun k => match k with
  | 0 => .array (.object "RootForms$Form")
  | 1 => .array (.object "RootForms$Form")
  | 2 => .array .int
  | 3 => .int
  | 4 => .int
  | _ => .int
theorem nmX6 : ∀ a, a < 6 → ∀ b, b < 6 → a ≠ b → (TX6 a).2.1 ≠ (TX6 b).2.1 := by decide +kernel
theorem tyX6_ok : ∀ k, k < 6 → parseFieldDescriptor (TX6 k).2.2.1 = some (tyX6 k) := by decide +kernel
def TX7 : u_T := fun k => match k with
  | _ => ("", "", "", false)
def tyX7 : Nat → FieldType := fun k => match k with
  | _ => .int
def TX8 : u_T := fun k => match k with
  | 0 => ("RootForms$Way", "p", "J", false)
  | 1 => ("RootForms$Way", "q", "J", false)
  | 2 => ("RootForms$Way", "\x72", "J", false)
  | _ => ("RootForms$Way", "s", "J", false)
def tyX8 : Nat → FieldType := fun k => match k with
  | 0 => .long
  | 1 => .long
  | 2 => .long
  | _ => .long
theorem nmX8 : ∀ a, a < 4 → ∀ b, b < 4 → a ≠ b → (TX8 a).2.1 ≠ (TX8 b).2.1 := by decide +kernel
theorem tyX8_ok : ∀ k, k < 4 → parseFieldDescriptor (TX8 k).2.2.1 = some (tyX8 k) := by decide +kernel
def TX9 : u_T := fun k => match k with
  | 0 => ("RootForms", "groups", "LRootForms$GroupTable;", true)
  | 1 => ("RootForms", "table", "LRootForms$ClassTable;", true)
  | 2 => ("RootForms", "ground", "LRootForms$Ground;", true)
  | 3 => ("RootForms", "shelf", "LRootForms$Shelf;", true)
  | 4 => ("RootForms", "latestWay", "LRootForms$Way;", true)
  | 5 => ("RootForms", "out", "LRootForms$Pairs;", true)
  | 6 => ("RootForms", "quotients", "LRootForms$Quotients;", true)
  | 7 => ("RootForms", "workForm", "LRootForms$Form;", true)
  | 8 => ("RootForms", "workWay", "LRootForms$Way;", true)
  | _ => ("RootForms", "latestTrouble", "I", false)
def tyX9 : Nat → FieldType := fun k => match k with
  | 0 => .object "RootForms$GroupTable"
  | 1 => .object "RootForms$ClassTable"
  | 2 => .object "RootForms$Ground"
  | 3 => .object "RootForms$Shelf"
  | 4 => .object "RootForms$Way"
  | 5 => .object "RootForms$Pairs"
  | 6 => .object "RootForms$Quotients"
  | 7 => .object "RootForms$Form"
  | 8 => .object "RootForms$Way"
  | _ => .int
theorem nmX9 : ∀ a, a < 10 → ∀ b, b < 10 → a ≠ b → (TX9 a).2.1 ≠ (TX9 b).2.1 := by decide +kernel
theorem tyX9_ok : ∀ k, k < 10 → parseFieldDescriptor (TX9 k).2.2.1 = some (tyX9 k) := by decide +kernel
def TX10 : u_T := fun k => match k with
  | 0 => ("RootFormsModel", "d", "I", false)
  | 1 => ("RootFormsModel", "whole", "I", false)
  | 2 => ("RootFormsModel", "trouble", "I", false)
  | 3 => ("RootFormsModel", "thrown", "I", false)
  | 4 => ("RootFormsModel", "shelf", "[J", true)
  | 5 => ("RootFormsModel", "past", "[J", true)
  | 6 => ("RootFormsModel", "many", "I", false)
  | 7 => ("RootFormsModel", "acts", "I", false)
  | 8 => ("RootFormsModel", "way", "[J", true)
  | 9 => ("RootFormsModel", "outX", "[I", true)
  | 10 => ("RootFormsModel", "outY", "[I", true)
  | 11 => ("RootFormsModel", "outs", "I", false)
  | 12 => ("RootFormsModel", "fa", "J", false)
  | 13 => ("RootFormsModel", "fb", "J", false)
  | 14 => ("RootFormsModel", "fc", "J", false)
  | 15 => ("RootFormsModel", "p", "J", false)
  | 16 => ("RootFormsModel", "q", "J", false)
  | 17 => ("RootFormsModel", "\x72", "J", false)
  | 18 => ("RootFormsModel", "s", "J", false)
  | 19 => ("RootFormsModel", "leastA", "[I", true)
  | 20 => ("RootFormsModel", "leastB", "[I", true)
  | 21 => ("RootFormsModel", "leastClass", "[I", true)
  | 22 => ("RootFormsModel", "leasts", "I", false)
  | 23 => ("RootFormsModel", "classes", "I", false)
  | 24 => ("RootFormsModel", "headA", "[I", true)
  | 25 => ("RootFormsModel", "headB", "[I", true)
  | 26 => ("RootFormsModel", "gd", "J", false)
  | 27 => ("RootFormsModel", "gu", "J", false)
  | 28 => ("RootFormsModel", "gv", "J", false)
  | 29 => ("RootFormsModel", "rings", "[I", true)
  | 30 => ("RootFormsModel", "orders", "[I", true)
  | 31 => ("RootFormsModel", "ringMany", "I", false)
  | 32 => ("RootFormsModel", "genus", "[I", true)
  | 33 => ("RootFormsModel", "squaresOf", "[I", true)
  | 34 => ("RootFormsModel", "cp", "J", false)
  | 35 => ("RootFormsModel", "cq", "J", false)
  | 36 => ("RootFormsModel", "cn", "J", false)
  | 37 => ("RootFormsModel", "cr", "J", false)
  | 38 => ("RootFormsModel", "quotient", "J", false)
  | 39 => ("RootFormsModel", "up", "J", false)
  | 40 => ("RootFormsModel", "low", "J", false)
  | 41 => ("RootFormsModel", "upBefore", "J", false)
  | 42 => ("RootFormsModel", "lowBefore", "J", false)
  | _ => ("RootFormsModel", "isBig", "Z", false)
def tyX10 : Nat → FieldType := fun k => match k with
  | 0 => .int
  | 1 => .int
  | 2 => .int
  | 3 => .int
  | 4 => .array .long
  | 5 => .array .long
  | 6 => .int
  | 7 => .int
  | 8 => .array .long
  | 9 => .array .int
  | 10 => .array .int
  | 11 => .int
  | 12 => .long
  | 13 => .long
  | 14 => .long
  | 15 => .long
  | 16 => .long
  | 17 => .long
  | 18 => .long
  | 19 => .array .int
  | 20 => .array .int
  | 21 => .array .int
  | 22 => .int
  | 23 => .int
  | 24 => .array .int
  | 25 => .array .int
  | 26 => .long
  | 27 => .long
  | 28 => .long
  | 29 => .array .int
  | 30 => .array .int
  | 31 => .int
  | 32 => .array .int
  | 33 => .array .int
  | 34 => .long
  | 35 => .long
  | 36 => .long
  | 37 => .long
  | 38 => .long
  | 39 => .long
  | 40 => .long
  | 41 => .long
  | 42 => .long
  | _ => .boolean
theorem nmX10 : ∀ a, a < 44 → ∀ b, b < 44 → a ≠ b → (TX10 a).2.1 ≠ (TX10 b).2.1 := by decide +kernel
theorem tyX10_ok : ∀ k, k < 44 → parseFieldDescriptor (TX10 k).2.2.1 = some (tyX10 k) := by decide +kernel
abbrev cX0_init : ByteArray := prog_2_method_1_code
def yX0_init : MethodName := ⟨RX0, "<init>", "()V"⟩
abbrev cX0_hasClass : ByteArray := prog_2_method_2_code
def yX0_hasClass : MethodName := ⟨RX0, "hasClass", "(I)Z"⟩
abbrev cX0_prepare : ByteArray := prog_2_method_3_code
def yX0_prepare : MethodName := ⟨RX0, "prepare", "()V"⟩
abbrev cX0_listLeast : ByteArray := prog_2_method_4_code
def yX0_listLeast : MethodName := ⟨RX0, "listLeast", "()V"⟩
abbrev cX0_listWalker : ByteArray := prog_2_method_5_code
def yX0_listWalker : MethodName := ⟨RX0, "listWalker", "()V"⟩
abbrev cX0_numberClasses : ByteArray := prog_2_method_6_code
def yX0_numberClasses : MethodName := ⟨RX0, "numberClasses", "()V"⟩
abbrev cX0_markRing : ByteArray := prog_2_method_7_code
def yX0_markRing : MethodName := ⟨RX0, "markRing", "(II)V"⟩
abbrev cX0_indexOf : ByteArray := prog_2_method_8_code
def yX0_indexOf : MethodName := ⟨RX0, "indexOf", "(JJ)I"⟩
abbrev cX0_find : ByteArray := prog_2_method_9_code
def yX0_find : MethodName := ⟨RX0, "find", "(LRootForms$Form;)I"⟩
abbrev cX0_copyHead : ByteArray := prog_2_method_10_code
def yX0_copyHead : MethodName := ⟨RX0, "copyHead", "(ILRootForms$Form;)V"⟩
abbrev cX0_joined : ByteArray := prog_2_method_11_code
def yX0_joined : MethodName := ⟨RX0, "joined", "(II)I"⟩
abbrev cX1_init : ByteArray := prog_3_method_1_code
def yX1_init : MethodName := ⟨RX1, "<init>", "()V"⟩
abbrev cX1_put : ByteArray := prog_3_method_2_code
def yX1_put : MethodName := ⟨RX1, "put", "(JJJ)V"⟩
abbrev cX1_copy : ByteArray := prog_3_method_3_code
def yX1_copy : MethodName := ⟨RX1, "copy", "(LRootForms$Form;)V"⟩
abbrev cX1_part : ByteArray := prog_3_method_4_code
def yX1_part : MethodName := ⟨RX1, "part", "(I)I"⟩
abbrev cX1_worthAt : ByteArray := prog_3_method_5_code
def yX1_worthAt : MethodName := ⟨RX1, "worthAt", "(JJ)J"⟩
abbrev cX2_init : ByteArray := prog_4_method_1_code
def yX2_init : MethodName := ⟨RX2, "<init>", "()V"⟩
abbrev cX2_isDiscriminant : ByteArray := prog_4_method_2_code
def yX2_isDiscriminant : MethodName := ⟨RX2, "isDiscriminant", "(I)Z"⟩
abbrev cX2_settle : ByteArray := prog_4_method_3_code
def yX2_settle : MethodName := ⟨RX2, "settle", "(I)V"⟩
abbrev cX2_complete : ByteArray := prog_4_method_4_code
def yX2_complete : MethodName := ⟨RX2, "complete", "(JJLRootForms$Form;)Z"⟩
abbrev cX2_isLeast : ByteArray := prog_4_method_5_code
def yX2_isLeast : MethodName := ⟨RX2, "isLeast", "(LRootForms$Form;)Z"⟩
abbrev cX2_advance : ByteArray := prog_4_method_6_code
def yX2_advance : MethodName := ⟨RX2, "advance", "(LRootForms$Form;)J"⟩
abbrev cX2_lead : ByteArray := prog_4_method_7_code
def yX2_lead : MethodName := ⟨RX2, "lead", "(LRootForms$Form;LRootForms$Way;)I"⟩
abbrev cX2_ringLength : ByteArray := prog_4_method_8_code
def yX2_ringLength : MethodName := ⟨RX2, "ringLength", "(LRootForms$Form;)I"⟩
abbrev cX3_init : ByteArray := prog_5_method_1_code
def yX3_init : MethodName := ⟨RX3, "<init>", "()V"⟩
abbrev cX3_prepare : ByteArray := prog_5_method_2_code
def yX3_prepare : MethodName := ⟨RX3, "prepare", "()V"⟩
abbrev cX3_orderChain : ByteArray := prog_5_method_3_code
def yX3_orderChain : MethodName := ⟨RX3, "orderChain", "(I)V"⟩
abbrev cX3_findRings : ByteArray := prog_5_method_4_code
def yX3_findRings : MethodName := ⟨RX3, "findRings", "()V"⟩
abbrev cX3_countOrders : ByteArray := prog_5_method_5_code
def yX3_countOrders : MethodName := ⟨RX3, "countOrders", "(I)I"⟩
abbrev cX3_widenRing : ByteArray := prog_5_method_6_code
def yX3_widenRing : MethodName := ⟨RX3, "widenRing", "(II)V"⟩
abbrev cX3_numberGenera : ByteArray := prog_5_method_7_code
def yX3_numberGenera : MethodName := ⟨RX3, "numberGenera", "(I)V"⟩
abbrev cX3_listSquares : ByteArray := prog_5_method_8_code
def yX3_listSquares : MethodName := ⟨RX3, "listSquares", "()I"⟩
abbrev cX4_init : ByteArray := prog_6_method_1_code
def yX4_init : MethodName := ⟨RX4, "<init>", "()V"⟩
abbrev cX4_clear : ByteArray := prog_6_method_2_code
def yX4_clear : MethodName := ⟨RX4, "clear", "()V"⟩
abbrev cX4_insert : ByteArray := prog_6_method_3_code
def yX4_insert : MethodName := ⟨RX4, "insert", "(II)V"⟩
abbrev cX4_isAhead : ByteArray := prog_6_method_4_code
def yX4_isAhead : MethodName := ⟨RX4, "isAhead", "(III)Z"⟩
abbrev cX5_init : ByteArray := prog_7_method_1_code
def yX5_init : MethodName := ⟨RX5, "<init>", "()V"⟩
abbrev cX5_begin : ByteArray := prog_7_method_2_code
def yX5_begin : MethodName := ⟨RX5, "begin", "(JJJ)V"⟩
abbrev cX5_advance : ByteArray := prog_7_method_3_code
def yX5_advance : MethodName := ⟨RX5, "advance", "()V"⟩
abbrev cX5_widenFraction : ByteArray := prog_7_method_4_code
def yX5_widenFraction : MethodName := ⟨RX5, "widenFraction", "()V"⟩
abbrev cX5_goRound : ByteArray := prog_7_method_5_code
def yX5_goRound : MethodName := ⟨RX5, "goRound", "(JJJ)I"⟩
abbrev cX5_goTo : ByteArray := prog_7_method_6_code
def yX5_goTo : MethodName := ⟨RX5, "goTo", "(JI)V"⟩
abbrev cX6_init : ByteArray := prog_8_method_1_code
def yX6_init : MethodName := ⟨RX6, "<init>", "()V"⟩
abbrev cX6_empty : ByteArray := prog_8_method_2_code
def yX6_empty : MethodName := ⟨RX6, "empty", "()V"⟩
abbrev cX6_at : ByteArray := prog_8_method_3_code
def yX6_at : MethodName := ⟨RX6, "at", "(I)LRootForms$Form;"⟩
abbrev cX6_lay : ByteArray := prog_8_method_4_code
def yX6_lay : MethodName := ⟨RX6, "lay", "(LRootForms$Form;)I"⟩
abbrev cX6_remember : ByteArray := prog_8_method_5_code
def yX6_remember : MethodName := ⟨RX6, "remember", "(ILRootForms$Form;)V"⟩
abbrev cX6_takeBack : ByteArray := prog_8_method_6_code
def yX6_takeBack : MethodName := ⟨RX6, "takeBack", "()Z"⟩
abbrev cX7_rootOf : ByteArray := prog_9_method_2_code
def yX7_rootOf : MethodName := ⟨RX7, "rootOf", "(J)J"⟩
abbrev cX7_isSquare : ByteArray := prog_9_method_3_code
def yX7_isSquare : MethodName := ⟨RX7, "isSquare", "(J)Z"⟩
abbrev cX7_commonDivisor : ByteArray := prog_9_method_4_code
def yX7_commonDivisor : MethodName := ⟨RX7, "commonDivisor", "(JJ)J"⟩
abbrev cX7_factorToDivisor : ByteArray := prog_9_method_5_code
def yX7_factorToDivisor : MethodName := ⟨RX7, "factorToDivisor", "(JJ)J"⟩
abbrev cX8_init : ByteArray := prog_10_method_1_code
def yX8_init : MethodName := ⟨RX8, "<init>", "()V"⟩
abbrev cX8_put : ByteArray := prog_10_method_2_code
def yX8_put : MethodName := ⟨RX8, "put", "(JJJJ)V"⟩
abbrev cX8_reset : ByteArray := prog_10_method_3_code
def yX8_reset : MethodName := ⟨RX8, "reset", "()V"⟩
abbrev cX8_follow : ByteArray := prog_10_method_4_code
def yX8_follow : MethodName := ⟨RX8, "follow", "(J)V"⟩
abbrev cX8_worth : ByteArray := prog_10_method_5_code
def yX8_worth : MethodName := ⟨RX8, "worth", "()J"⟩
abbrev cX8_leads : ByteArray := prog_10_method_6_code
def yX8_leads : MethodName := ⟨RX8, "leads", "(LRootForms$Form;LRootForms$Form;)Z"⟩
abbrev cX9_init : ByteArray := prog_1_method_1_code
def yX9_init : MethodName := ⟨RX9, "<init>", "()V"⟩
abbrev cX9_root : ByteArray := prog_1_method_2_code
def yX9_root : MethodName := ⟨RX9, "root", "(I)Z"⟩
abbrev cX9_form : ByteArray := prog_1_method_3_code
def yX9_form : MethodName := ⟨RX9, "form", "(II)I"⟩
abbrev cX9_number : ByteArray := prog_1_method_4_code
def yX9_number : MethodName := ⟨RX9, "number", "(II)I"⟩
abbrev cX9_least : ByteArray := prog_1_method_5_code
def yX9_least : MethodName := ⟨RX9, "least", "(I)I"⟩
abbrev cX9_step : ByteArray := prog_1_method_6_code
def yX9_step : MethodName := ⟨RX9, "step", "(I)I"⟩
abbrev cX9_reduce : ByteArray := prog_1_method_7_code
def yX9_reduce : MethodName := ⟨RX9, "reduce", "(I)I"⟩
abbrev cX9_way : ByteArray := prog_1_method_8_code
def yX9_way : MethodName := ⟨RX9, "way", "(I)J"⟩
abbrev cX9_ring : ByteArray := prog_1_method_9_code
def yX9_ring : MethodName := ⟨RX9, "ring", "(I)I"⟩
abbrev cX9_classOf : ByteArray := prog_1_method_10_code
def yX9_classOf : MethodName := ⟨RX9, "classOf", "(I)I"⟩
abbrev cX9_check : ByteArray := prog_1_method_11_code
def yX9_check : MethodName := ⟨RX9, "check", "(IIIIII)I"⟩
abbrev cX9_classes : ByteArray := prog_1_method_12_code
def yX9_classes : MethodName := ⟨RX9, "classes", "()I"⟩
abbrev cX9_head : ByteArray := prog_1_method_13_code
def yX9_head : MethodName := ⟨RX9, "head", "(II)I"⟩
abbrev cX9_one : ByteArray := prog_1_method_14_code
def yX9_one : MethodName := ⟨RX9, "one", "()I"⟩
abbrev cX9_join : ByteArray := prog_1_method_15_code
def yX9_join : MethodName := ⟨RX9, "join", "(II)I"⟩
abbrev cX9_back : ByteArray := prog_1_method_16_code
def yX9_back : MethodName := ⟨RX9, "back", "(I)I"⟩
abbrev cX9_order : ByteArray := prog_1_method_17_code
def yX9_order : MethodName := ⟨RX9, "order", "(I)I"⟩
abbrev cX9_group : ByteArray := prog_1_method_18_code
def yX9_group : MethodName := ⟨RX9, "group", "(I)I"⟩
abbrev cX9_genus : ByteArray := prog_1_method_19_code
def yX9_genus : MethodName := ⟨RX9, "genus", "(I)I"⟩
abbrev cX9_genera : ByteArray := prog_1_method_20_code
def yX9_genera : MethodName := ⟨RX9, "genera", "()I"⟩
abbrev cX9_unit : ByteArray := prog_1_method_21_code
def yX9_unit : MethodName := ⟨RX9, "unit", "(I)J"⟩
abbrev cX9_period : ByteArray := prog_1_method_22_code
def yX9_period : MethodName := ⟨RX9, "period", "(I)I"⟩
abbrev cX9_quotient : ByteArray := prog_1_method_23_code
def yX9_quotient : MethodName := ⟨RX9, "quotient", "(II)I"⟩
abbrev cX9_near : ByteArray := prog_1_method_24_code
def yX9_near : MethodName := ⟨RX9, "near", "(IIZ)J"⟩
abbrev cX9_takes : ByteArray := prog_1_method_25_code
def yX9_takes : MethodName := ⟨RX9, "takes", "(II)I"⟩
abbrev cX9_proper : ByteArray := prog_1_method_26_code
def yX9_proper : MethodName := ⟨RX9, "proper", "(II)I"⟩
abbrev cX9_squares : ByteArray := prog_1_method_27_code
def yX9_squares : MethodName := ⟨RX9, "squares", "(I)I"⟩
abbrev cX9_pair : ByteArray := prog_1_method_28_code
def yX9_pair : MethodName := ⟨RX9, "pair", "(IZ)I"⟩
abbrev cX9_undo : ByteArray := prog_1_method_29_code
def yX9_undo : MethodName := ⟨RX9, "undo", "()I"⟩
abbrev cX9_size : ByteArray := prog_1_method_30_code
def yX9_size : MethodName := ⟨RX9, "size", "(I)I"⟩
abbrev cX9_trouble : ByteArray := prog_1_method_31_code
def yX9_trouble : MethodName := ⟨RX9, "trouble", "()I"⟩
abbrev cX9_refuse : ByteArray := prog_1_method_32_code
def yX9_refuse : MethodName := ⟨RX9, "refuse", "(I)I"⟩
abbrev cX9_accept : ByteArray := prog_1_method_33_code
def yX9_accept : MethodName := ⟨RX9, "accept", "(I)I"⟩
abbrev cX9_isBeyond : ByteArray := prog_1_method_34_code
def yX9_isBeyond : MethodName := ⟨RX9, "isBeyond", "(I)Z"⟩
abbrev cX9_hasQuotients : ByteArray := prog_1_method_35_code
def yX9_hasQuotients : MethodName := ⟨RX9, "hasQuotients", "(I)Z"⟩
abbrev cX9_countTaken : ByteArray := prog_1_method_36_code
def yX9_countTaken : MethodName := ⟨RX9, "countTaken", "(I)I"⟩
abbrev cX9_keepTaken : ByteArray := prog_1_method_37_code
def yX9_keepTaken : MethodName := ⟨RX9, "keepTaken", "(JJ)I"⟩
abbrev cX9_countProper : ByteArray := prog_1_method_38_code
def yX9_countProper : MethodName := ⟨RX9, "countProper", "(II)I"⟩
abbrev cX9_countSquares : ByteArray := prog_1_method_39_code
def yX9_countSquares : MethodName := ⟨RX9, "countSquares", "(I)I"⟩
abbrev cX10_init : ByteArray := prog_12_method_1_code
def yX10_init : MethodName := ⟨RX10, "<init>", "()V"⟩
abbrev cX10_no : ByteArray := prog_12_method_3_code
def yX10_no : MethodName := ⟨RX10, "no", "(I)I"⟩
abbrev cX10_in : ByteArray := prog_12_method_4_code
def yX10_in : MethodName := ⟨RX10, "in", "(JJJ)Z"⟩
abbrev cX10_abs : ByteArray := prog_12_method_5_code
def yX10_abs : MethodName := ⟨RX10, "abs", "(J)J"⟩
abbrev cX10_divisor : ByteArray := prog_12_method_6_code
def yX10_divisor : MethodName := ⟨RX10, "divisor", "(JJ)J"⟩
abbrev cX10_root0 : ByteArray := prog_12_method_7_code
def yX10_root0 : MethodName := ⟨RX10, "root0", "(J)J"⟩
abbrev cX10_take : ByteArray := prog_12_method_8_code
def yX10_take : MethodName := ⟨RX10, "take", "(I)V"⟩
abbrev cX10_lay : ByteArray := prog_12_method_9_code
def yX10_lay : MethodName := ⟨RX10, "lay", "(I)V"⟩
abbrev cX10_isForm : ByteArray := prog_12_method_10_code
def yX10_isForm : MethodName := ⟨RX10, "isForm", "(JJ)Z"⟩
abbrev cX10_isLeast : ByteArray := prog_12_method_11_code
def yX10_isLeast : MethodName := ⟨RX10, "isLeast", "()Z"⟩
abbrev cX10_noSteps : ByteArray := prog_12_method_12_code
def yX10_noSteps : MethodName := ⟨RX10, "noSteps", "()V"⟩
abbrev cX10_steps : ByteArray := prog_12_method_13_code
def yX10_steps : MethodName := ⟨RX10, "steps", "()V"⟩
abbrev cX10_reduces : ByteArray := prog_12_method_14_code
def yX10_reduces : MethodName := ⟨RX10, "reduces", "()I"⟩
abbrev cX10_indexOf : ByteArray := prog_12_method_15_code
def yX10_indexOf : MethodName := ⟨RX10, "indexOf", "(JJ)I"⟩
abbrev cX10_becomes : ByteArray := prog_12_method_16_code
def yX10_becomes : MethodName := ⟨RX10, "becomes", "(I)V"⟩
abbrev cX10_classHere : ByteArray := prog_12_method_17_code
def yX10_classHere : MethodName := ⟨RX10, "classHere", "()I"⟩
abbrev cX10_root : ByteArray := prog_12_method_18_code
def yX10_root : MethodName := ⟨RX10, "root", "(I)Z"⟩
abbrev cX10_act : ByteArray := prog_12_method_19_code
def yX10_act : MethodName := ⟨RX10, "act", "(I)V"⟩
abbrev cX10_undo : ByteArray := prog_12_method_20_code
def yX10_undo : MethodName := ⟨RX10, "undo", "()I"⟩
abbrev cX10_isPlace : ByteArray := prog_12_method_21_code
def yX10_isPlace : MethodName := ⟨RX10, "isPlace", "(I)Z"⟩
abbrev cX10_form : ByteArray := prog_12_method_22_code
def yX10_form : MethodName := ⟨RX10, "form", "(II)I"⟩
abbrev cX10_number : ByteArray := prog_12_method_23_code
def yX10_number : MethodName := ⟨RX10, "number", "(II)I"⟩
abbrev cX10_least : ByteArray := prog_12_method_24_code
def yX10_least : MethodName := ⟨RX10, "least", "(I)I"⟩
abbrev cX10_keepWay : ByteArray := prog_12_method_25_code
def yX10_keepWay : MethodName := ⟨RX10, "keepWay", "()V"⟩
abbrev cX10_step : ByteArray := prog_12_method_26_code
def yX10_step : MethodName := ⟨RX10, "step", "(I)I"⟩
abbrev cX10_reduce : ByteArray := prog_12_method_27_code
def yX10_reduce : MethodName := ⟨RX10, "reduce", "(I)I"⟩
abbrev cX10_way : ByteArray := prog_12_method_28_code
def yX10_way : MethodName := ⟨RX10, "way", "(I)J"⟩
abbrev cX10_ring : ByteArray := prog_12_method_29_code
def yX10_ring : MethodName := ⟨RX10, "ring", "(I)I"⟩
abbrev cX10_classOf : ByteArray := prog_12_method_30_code
def yX10_classOf : MethodName := ⟨RX10, "classOf", "(I)I"⟩
abbrev cX10_check : ByteArray := prog_12_method_31_code
def yX10_check : MethodName := ⟨RX10, "check", "(IIIIII)I"⟩
abbrev cX10_isClass : ByteArray := prog_12_method_32_code
def yX10_isClass : MethodName := ⟨RX10, "isClass", "(I)Z"⟩
abbrev cX10_classes : ByteArray := prog_12_method_33_code
def yX10_classes : MethodName := ⟨RX10, "classes", "()I"⟩
abbrev cX10_head : ByteArray := prog_12_method_34_code
def yX10_head : MethodName := ⟨RX10, "head", "(II)I"⟩
abbrev cX10_oneOf : ByteArray := prog_12_method_35_code
def yX10_oneOf : MethodName := ⟨RX10, "oneOf", "()I"⟩
abbrev cX10_one : ByteArray := prog_12_method_36_code
def yX10_one : MethodName := ⟨RX10, "one", "()I"⟩
abbrev cX10_common : ByteArray := prog_12_method_37_code
def yX10_common : MethodName := ⟨RX10, "common", "(JJ)V"⟩
abbrev cX10_joined : ByteArray := prog_12_method_38_code
def yX10_joined : MethodName := ⟨RX10, "joined", "(II)I"⟩
abbrev cX10_join : ByteArray := prog_12_method_39_code
def yX10_join : MethodName := ⟨RX10, "join", "(II)I"⟩
abbrev cX10_back : ByteArray := prog_12_method_40_code
def yX10_back : MethodName := ⟨RX10, "back", "(I)I"⟩
abbrev cX10_orderOf : ByteArray := prog_12_method_41_code
def yX10_orderOf : MethodName := ⟨RX10, "orderOf", "(I)I"⟩
abbrev cX10_order : ByteArray := prog_12_method_42_code
def yX10_order : MethodName := ⟨RX10, "order", "(I)I"⟩
abbrev cX10_findRings : ByteArray := prog_12_method_43_code
def yX10_findRings : MethodName := ⟨RX10, "findRings", "()V"⟩
abbrev cX10_group : ByteArray := prog_12_method_44_code
def yX10_group : MethodName := ⟨RX10, "group", "(I)I"⟩
abbrev cX10_findGenera : ByteArray := prog_12_method_45_code
def yX10_findGenera : MethodName := ⟨RX10, "findGenera", "()I"⟩
abbrev cX10_genus : ByteArray := prog_12_method_46_code
def yX10_genus : MethodName := ⟨RX10, "genus", "(I)I"⟩
abbrev cX10_genera : ByteArray := prog_12_method_47_code
def yX10_genera : MethodName := ⟨RX10, "genera", "()I"⟩
abbrev cX10_begin : ByteArray := prog_12_method_48_code
def yX10_begin : MethodName := ⟨RX10, "begin", "(JJJ)V"⟩
abbrev cX10_goes : ByteArray := prog_12_method_49_code
def yX10_goes : MethodName := ⟨RX10, "goes", "()V"⟩
abbrev cX10_unit : ByteArray := prog_12_method_50_code
def yX10_unit : MethodName := ⟨RX10, "unit", "(I)J"⟩
abbrev cX10_isRooted : ByteArray := prog_12_method_51_code
def yX10_isRooted : MethodName := ⟨RX10, "isRooted", "(I)Z"⟩
abbrev cX10_period : ByteArray := prog_12_method_52_code
def yX10_period : MethodName := ⟨RX10, "period", "(I)I"⟩
abbrev cX10_quotient : ByteArray := prog_12_method_53_code
def yX10_quotient : MethodName := ⟨RX10, "quotient", "(II)I"⟩
abbrev cX10_near : ByteArray := prog_12_method_54_code
def yX10_near : MethodName := ⟨RX10, "near", "(IIZ)J"⟩
abbrev cX10_put : ByteArray := prog_12_method_55_code
def yX10_put : MethodName := ⟨RX10, "put", "(IJJ)V"⟩
abbrev cX10_takes : ByteArray := prog_12_method_56_code
def yX10_takes : MethodName := ⟨RX10, "takes", "(II)I"⟩
abbrev cX10_proper : ByteArray := prog_12_method_57_code
def yX10_proper : MethodName := ⟨RX10, "proper", "(II)I"⟩
abbrev cX10_squares : ByteArray := prog_12_method_58_code
def yX10_squares : MethodName := ⟨RX10, "squares", "(I)I"⟩
abbrev cX10_pair : ByteArray := prog_12_method_59_code
def yX10_pair : MethodName := ⟨RX10, "pair", "(IZ)I"⟩
abbrev cX10_size : ByteArray := prog_12_method_60_code
def yX10_size : MethodName := ⟨RX10, "size", "(I)I"⟩
abbrev cX10_trouble : ByteArray := prog_12_method_61_code
def yX10_trouble : MethodName := ⟨RX10, "trouble", "()I"⟩
abbrev cJ9_floorMod_7cf53 : ByteArray := prog_13_method_50_code
def yJ9_floorMod_7cf53 : MethodName := ⟨RJ9, "floorMod", "(II)I"⟩
abbrev cJ9_floorMod_f86c9 : ByteArray := prog_13_method_52_code
def yJ9_floorMod_f86c9 : MethodName := ⟨RJ9, "floorMod", "(JJ)J"⟩
abbrev cJ9_abs_0f7a4 : ByteArray := prog_13_method_59_code
def yJ9_abs_0f7a4 : MethodName := ⟨RJ9, "abs", "(I)I"⟩
abbrev cJ9_abs_067f4 : ByteArray := prog_13_method_61_code
def yJ9_abs_067f4 : MethodName := ⟨RJ9, "abs", "(J)J"⟩
abbrev cJ9_max_7cf53 : ByteArray := prog_13_method_65_code
def yJ9_max_7cf53 : MethodName := ⟨RJ9, "max", "(II)I"⟩
abbrev cJ9_min_7cf53 : ByteArray := prog_13_method_69_code
def yJ9_min_7cf53 : MethodName := ⟨RJ9, "min", "(II)I"⟩
abbrev cL_law : ByteArray := code
def yL_law : MethodName := ⟨RL, "law", "([I)Z"⟩
abbrev q_cl : List vw_C := [(RX0, TX0, 12), (RX1, TX1, 3), (RX2, TX2, 2), (RX3, TX3, 8), (RX4, TX4, 3), (RX5, TX5, 10), (RX6, TX6, 6), (RX8, TX8, 4), (RX9, TX9, 10), (RX10, TX10, 44)]
def q_cns : List String := [RX0, RX1, RX2, RX3, RX4, RX5, RX6, RX8, RX9, RX10, RX7, RJ9, RL]
def q_cn (c : Nat) : String := q_cns.getD c ""
def q_fks : List (List Nat) := [[2, 2, 2, 2, 2, 2, 2, 2, 2, 0, 0, 0], [1, 1, 1], [0, 0], [2, 2, 2, 2, 2, 0, 0, 0], [2, 2, 0], [1, 1, 1, 1, 1, 1, 1, 1, 1, 0], [2, 2, 2, 0, 0, 0], [1, 1, 1, 1], [2, 2, 2, 2, 2, 2, 2, 2, 2, 0], [0, 0, 0, 0, 2, 2, 0, 0, 2, 2, 2, 0, 1, 1, 1, 1, 1, 1, 1, 2, 2, 2, 0, 0, 2, 2, 1, 1, 1, 2, 2, 0, 2, 2, 1, 1, 1, 1, 1, 1, 1, 1, 1, 0]]
def q_fk (ci k : Nat) : Nat := (q_fks.getD ci []).getD k 0
def q_nf (ci : Nat) : Nat := (q_fks.getD ci []).length
def q_fdl : List (Nat × Nat × Nat × Nat × Nat) := [(8, 10, 8, 0, 316), (8, 16, 3, 0, 171), (8, 20, 8, 1, 317), (8, 21, 0, 0, 130), (8, 27, 8, 2, 318), (8, 31, 8, 3, 319), (8, 38, 8, 4, 320), (8, 45, 8, 5, 321), (8, 52, 8, 6, 322), (8, 59, 8, 7, 323), (8, 63, 8, 8, 324), (8, 66, 8, 9, 325), (8, 94, 1, 2, 117), (8, 139, 7, 0, 238), (8, 142, 7, 1, 240), (8, 145, 7, 2, 242), (8, 148, 7, 3, 244), (8, 151, 2, 0, 91), (8, 179, 0, 10, 142), (8, 192, 1, 1, 115), (8, 196, 3, 1, 173), (8, 200, 3, 5, 180), (8, 203, 3, 4, 178), (8, 206, 3, 2, 175), (8, 209, 3, 6, 182), (8, 212, 2, 1, 94), (8, 220, 5, 5, 286), (8, 223, 5, 7, 289), (8, 226, 5, 9, 292), (8, 243, 5, 4, 284), (8, 260, 4, 2, 265), (8, 266, 4, 1, 263), (8, 269, 4, 0, 261), (8, 276, 6, 3, 214), (8, 277, 6, 4, 216), (8, 288, 1, 0, 110), (0, 12, 0, 0, 129), (0, 18, 0, 1, 131), (0, 22, 0, 2, 132), (0, 25, 0, 3, 133), (0, 28, 0, 4, 134), (0, 31, 0, 5, 135), (0, 37, 0, 6, 136), (0, 41, 0, 7, 137), (0, 44, 0, 8, 138), (0, 47, 0, 10, 140), (0, 51, 0, 11, 144), (0, 54, 2, 0, 90), (0, 63, 0, 9, 139), (0, 66, 2, 1, 93), (0, 108, 1, 0, 109), (0, 112, 1, 1, 114), (0, 144, 1, 2, 120), (1, 7, 1, 0, 106), (1, 13, 1, 1, 111), (1, 16, 1, 2, 116), (2, 9, 2, 0, 89), (2, 31, 2, 1, 92), (2, 46, 1, 0, 107), (2, 53, 1, 1, 112), (2, 58, 1, 2, 118), (3, 12, 3, 0, 170), (3, 18, 3, 1, 172), (3, 22, 3, 2, 174), (3, 25, 3, 3, 176), (3, 28, 3, 4, 177), (3, 34, 3, 7, 183), (3, 38, 0, 11, 143), (3, 39, 0, 10, 141), (3, 75, 3, 5, 179), (3, 86, 3, 6, 181), (4, 9, 4, 0, 260), (4, 15, 4, 1, 262), (4, 18, 4, 2, 264), (5, 9, 5, 0, 279), (5, 21, 5, 1, 280), (5, 24, 5, 2, 281), (5, 27, 5, 3, 282), (5, 30, 5, 4, 283), (5, 33, 5, 5, 285), (5, 36, 5, 6, 287), (5, 39, 5, 7, 288), (5, 42, 5, 8, 290), (5, 45, 5, 9, 291), (6, 11, 6, 0, 210), (6, 18, 6, 1, 211), (6, 21, 6, 2, 212), (6, 25, 6, 3, 213), (6, 29, 6, 4, 215), (6, 32, 6, 5, 217), (7, 7, 7, 0, 237), (7, 13, 7, 3, 243), (7, 16, 7, 1, 239), (7, 19, 7, 2, 241), (7, 28, 1, 0, 108), (7, 33, 1, 1, 113), (7, 36, 1, 2, 119), (9, 7, 9, 4, 812), (9, 13, 9, 5, 813), (9, 16, 9, 8, 816), (9, 19, 9, 9, 817), (9, 23, 9, 10, 818), (9, 26, 9, 19, 827), (9, 29, 9, 20, 828), (9, 32, 9, 21, 829), (9, 35, 9, 24, 832), (9, 38, 9, 25, 833), (9, 41, 9, 29, 837), (9, 44, 9, 30, 838), (9, 47, 9, 32, 840), (9, 50, 9, 33, 841), (9, 57, 9, 3, 811), (9, 61, 9, 2, 810), (9, 72, 9, 12, 820), (9, 76, 9, 13, 821), (9, 79, 9, 14, 822), (9, 82, 9, 0, 808), (9, 91, 9, 1, 809), (9, 94, 9, 15, 823), (9, 97, 9, 16, 824), (9, 100, 9, 17, 825), (9, 103, 9, 18, 826), (9, 113, 9, 22, 830), (9, 123, 9, 23, 831), (9, 142, 9, 6, 814), (9, 145, 9, 7, 815), (9, 186, 9, 26, 834), (9, 189, 9, 27, 835), (9, 192, 9, 28, 836), (9, 206, 9, 31, 839), (9, 215, 9, 36, 844), (9, 218, 9, 37, 845), (9, 221, 9, 34, 842), (9, 224, 9, 35, 843), (9, 227, 9, 39, 847), (9, 230, 9, 41, 849), (9, 233, 9, 40, 848), (9, 236, 9, 42, 850), (9, 239, 9, 43, 851), (9, 243, 9, 38, 846), (9, 270, 9, 11, 819)]
abbrev q_MT : Type := MethodName × ByteArray × Nat × Option FieldType × Nat × Nat × Nat × Nat × Nat × Nat
def q_mt : List q_MT := [
  (yX0_init, cX0_init, 1, none, 0, 0, 2, 32, 81, 53),
  (yX0_hasClass, cX0_hasClass, 2, some .boolean, 0, 1, 0, 0, 569, 53),
  (yX0_prepare, cX0_prepare, 1, none, 0, 0, 4, 107, 503, 53),
  (yX0_listLeast, cX0_listLeast, 8, none, 0, 0, 3, 80, 507, 53),
  (yX0_listWalker, cX0_listWalker, 1, none, 0, 0, 1, 21, 517, 53),
  (yX0_numberClasses, cX0_numberClasses, 2, none, 0, 0, 3, 81, 522, 53),
  (yX0_markRing, cX0_markRing, 5, none, 0, 2, 2, 57, 526, 53),
  (yX0_indexOf, cX0_indexOf, 9, some .int, 0, 2, 1, 21, 532, 53),
  (yX0_find, cX0_find, 3, some .int, 0, 1, 2, 57, 537, 53),
  (yX0_copyHead, cX0_copyHead, 4, none, 0, 2, 1, 26, 573, 53),
  (yX0_joined, cX0_joined, 21, some .int, 0, 2, 3, 80, 586, 53),
  (yX1_init, cX1_init, 1, none, 1, 0, 1, 12, 104, 55),
  (yX1_put, cX1_put, 7, none, 1, 3, 0, 0, 394, 55),
  (yX1_copy, cX1_copy, 2, none, 1, 1, 1, 26, 415, 55),
  (yX1_part, cX1_part, 2, some .int, 1, 1, 0, 0, 435, 55),
  (yX1_worthAt, cX1_worthAt, 5, some .long, 1, 2, 0, 0, 557, 55),
  (yX2_init, cX2_init, 1, none, 2, 0, 1, 12, 87, 54),
  (yX2_isDiscriminant, cX2_isDiscriminant, 1, some .boolean, 2, 1, 2, 48, 353, 54),
  (yX2_settle, cX2_settle, 2, none, 2, 1, 1, 25, 367, 54),
  (yX2_complete, cX2_complete, 10, some .boolean, 2, 3, 2, 51, 389, 54),
  (yX2_isLeast, cX2_isLeast, 6, some .boolean, 2, 1, 1, 21, 443, 54),
  (yX2_advance, cX2_advance, 12, some .long, 2, 1, 1, 26, 462, 54),
  (yX2_lead, cX2_lead, 4, some .int, 2, 2, 2, 57, 477, 54),
  (yX2_ringLength, cX2_ringLength, 7, some .int, 2, 1, 2, 57, 495, 54),
  (yX3_init, cX3_init, 1, none, 3, 0, 3, 52, 75, 52),
  (yX3_prepare, cX3_prepare, 2, none, 3, 0, 5, 146, 607, 52),
  (yX3_orderChain, cX3_orderChain, 7, none, 3, 1, 4, 120, 612, 52),
  (yX3_findRings, cX3_findRings, 8, none, 3, 0, 1, 23, 620, 52),
  (yX3_countOrders, cX3_countOrders, 4, some .int, 3, 1, 0, 0, 624, 52),
  (yX3_widenRing, cX3_widenRing, 3, none, 3, 2, 0, 0, 628, 52),
  (yX3_numberGenera, cX3_numberGenera, 5, none, 3, 1, 4, 120, 636, 52),
  (yX3_listSquares, cX3_listSquares, 4, some .int, 3, 0, 4, 120, 632, 52),
  (yX4_init, cX4_init, 1, none, 4, 0, 1, 12, 258, 58),
  (yX4_clear, cX4_clear, 1, none, 4, 0, 0, 0, 704, 58),
  (yX4_insert, cX4_insert, 4, none, 4, 2, 1, 23, 718, 58),
  (yX4_isAhead, cX4_isAhead, 4, some .boolean, 4, 3, 0, 0, 723, 58),
  (yX5_init, cX5_init, 1, none, 5, 0, 1, 12, 277, 59),
  (yX5_begin, cX5_begin, 7, none, 5, 3, 1, 25, 661, 59),
  (yX5_advance, cX5_advance, 1, none, 5, 0, 0, 0, 666, 59),
  (yX5_widenFraction, cX5_widenFraction, 5, none, 5, 0, 0, 0, 671, 59),
  (yX5_goRound, cX5_goRound, 8, some .int, 5, 3, 2, 51, 657, 59),
  (yX5_goTo, cX5_goTo, 5, none, 5, 2, 2, 51, 691, 59),
  (yX6_init, cX6_init, 2, none, 6, 0, 2, 32, 205, 56),
  (yX6_empty, cX6_empty, 1, none, 6, 0, 0, 0, 372, 56),
  (yX6_at, cX6_at, 2, some (.object "RootForms$Form"), 6, 1, 0, 0, 431, 56),
  (yX6_lay, cX6_lay, 3, some .int, 6, 1, 3, 70, 407, 56),
  (yX6_remember, cX6_remember, 4, none, 6, 2, 2, 47, 411, 56),
  (yX6_takeBack, cX6_takeBack, 3, some .boolean, 6, 0, 2, 47, 757, 56),
  (yX7_rootOf, cX7_rootOf, 6, some .long, 10, 1, 0, 0, 362, 62),
  (yX7_isSquare, cX7_isSquare, 4, some .boolean, 10, 1, 1, 25, 359, 62),
  (yX7_commonDivisor, cX7_commonDivisor, 11, some .long, 10, 2, 1, 21, 397, 62),
  (yX7_factorToDivisor, cX7_factorToDivisor, 19, some .long, 10, 2, 1, 25, 592, 62),
  (yX8_init, cX8_init, 1, none, 7, 0, 1, 12, 235, 57),
  (yX8_put, cX8_put, 9, none, 7, 4, 0, 0, 458, 57),
  (yX8_reset, cX8_reset, 1, none, 7, 0, 1, 28, 454, 57),
  (yX8_follow, cX8_follow, 3, none, 7, 1, 1, 28, 469, 57),
  (yX8_worth, cX8_worth, 1, some .long, 7, 0, 0, 0, 548, 57),
  (yX8_leads, cX8_leads, 5, some .boolean, 7, 2, 1, 24, 552, 57),
  (yX9_init, cX9_init, 1, none, 8, 0, 4, 72, 67, 51),
  (yX9_root, cX9_root, 2, some .boolean, 8, 1, 3, 68, 350, 51),
  (yX9_form, cX9_form, 4, some .int, 8, 2, 4, 92, 376, 51),
  (yX9_number, cX9_number, 4, some .int, 8, 2, 1, 21, 427, 51),
  (yX9_least, cX9_least, 3, some .int, 8, 1, 2, 46, 439, 51),
  (yX9_step, cX9_step, 3, some .int, 8, 1, 3, 70, 449, 51),
  (yX9_reduce, cX9_reduce, 3, some .int, 8, 1, 3, 80, 473, 51),
  (yX9_way, cX9_way, 2, some .long, 8, 1, 0, 0, 486, 51),
  (yX9_ring, cX9_ring, 3, some .int, 8, 1, 3, 83, 490, 51),
  (yX9_classOf, cX9_classOf, 3, some .int, 8, 1, 5, 127, 499, 51),
  (yX9_check, cX9_check, 9, some .int, 8, 6, 2, 48, 543, 51),
  (yX9_classes, cX9_classes, 1, some .int, 8, 0, 5, 127, 561, 51),
  (yX9_head, cX9_head, 3, some .int, 8, 2, 5, 127, 565, 51),
  (yX9_one, cX9_one, 1, some .int, 8, 0, 0, 0, 578, 51),
  (yX9_join, cX9_join, 3, some .int, 8, 2, 5, 127, 582, 51),
  (yX9_back, cX9_back, 2, some .int, 8, 1, 5, 127, 599, 51),
  (yX9_order, cX9_order, 2, some .int, 8, 1, 6, 167, 603, 51),
  (yX9_group, cX9_group, 2, some .int, 8, 1, 6, 167, 640, 51),
  (yX9_genus, cX9_genus, 2, some .int, 8, 1, 6, 167, 644, 51),
  (yX9_genera, cX9_genera, 1, some .int, 8, 0, 6, 167, 648, 51),
  (yX9_unit, cX9_unit, 7, some .long, 8, 1, 3, 78, 652, 51),
  (yX9_period, cX9_period, 2, some .int, 8, 1, 3, 78, 679, 51),
  (yX9_quotient, cX9_quotient, 3, some .int, 8, 2, 3, 75, 687, 51),
  (yX9_near, cX9_near, 4, some .long, 8, 3, 3, 75, 695, 51),
  (yX9_takes, cX9_takes, 4, some .int, 8, 2, 4, 106, 699, 51),
  (yX9_proper, cX9_proper, 4, some .int, 8, 2, 5, 127, 727, 51),
  (yX9_squares, cX9_squares, 2, some .int, 8, 1, 3, 71, 739, 51),
  (yX9_pair, cX9_pair, 3, some .int, 8, 2, 0, 0, 748, 51),
  (yX9_undo, cX9_undo, 1, some .int, 8, 0, 3, 69, 753, 51),
  (yX9_size, cX9_size, 2, some .int, 8, 1, 0, 0, 762, 51),
  (yX9_trouble, cX9_trouble, 1, some .int, 8, 0, 0, 0, 766, 51),
  (yX9_refuse, cX9_refuse, 2, some .int, 8, 1, 0, 0, 385, 51),
  (yX9_accept, cX9_accept, 2, some .int, 8, 1, 0, 0, 423, 51),
  (yX9_isBeyond, cX9_isBeyond, 1, some .boolean, 8, 1, 0, 0, 379, 51),
  (yX9_hasQuotients, cX9_hasQuotients, 1, some .boolean, 8, 1, 2, 48, 682, 51),
  (yX9_countTaken, cX9_countTaken, 11, some .int, 8, 1, 3, 76, 708, 51),
  (yX9_keepTaken, cX9_keepTaken, 11, some .int, 8, 2, 2, 46, 714, 51),
  (yX9_countProper, cX9_countProper, 8, some .int, 8, 2, 3, 80, 731, 51),
  (yX9_countSquares, cX9_countSquares, 6, some .int, 8, 1, 2, 46, 744, 51),
  (yX10_init, cX10_init, 1, none, 9, 0, 4, 101, 771, 60),
  (yX10_no, cX10_no, 2, some .int, 9, 1, 0, 0, 965, 60),
  (yX10_in, cX10_in, 7, some .boolean, 9, 3, 0, 0, 951, 60),
  (yX10_abs, cX10_abs, 3, some .long, 9, 1, 0, 0, 795, 60),
  (yX10_divisor, cX10_divisor, 11, some .long, 9, 2, 1, 22, 791, 60),
  (yX10_root0, cX10_root0, 9, some .long, 9, 1, 0, 0, 780, 60),
  (yX10_take, cX10_take, 2, none, 9, 1, 0, 0, 989, 60),
  (yX10_lay, cX10_lay, 2, none, 9, 1, 0, 0, 969, 60),
  (yX10_isForm, cX10_isForm, 5, some .boolean, 9, 2, 2, 52, 786, 60),
  (yX10_isLeast, cX10_isLeast, 1, some .boolean, 9, 0, 1, 22, 799, 60),
  (yX10_noSteps, cX10_noSteps, 1, none, 9, 0, 0, 0, 997, 60),
  (yX10_steps, cX10_steps, 19, none, 9, 0, 1, 22, 803, 60),
  (yX10_reduces, cX10_reduces, 2, some .int, 9, 0, 2, 60, 1009, 60),
  (yX10_indexOf, cX10_indexOf, 6, some .int, 9, 2, 0, 0, 807, 60),
  (yX10_becomes, cX10_becomes, 6, none, 9, 1, 3, 76, 776, 60),
  (yX10_classHere, cX10_classHere, 2, some .int, 9, 0, 3, 81, 1026, 60),
  (yX10_root, cX10_root, 5, some .boolean, 9, 1, 4, 101, 945, 60),
  (yX10_act, cX10_act, 3, none, 9, 1, 0, 0, 973, 60),
  (yX10_undo, cX10_undo, 3, some .int, 9, 0, 0, 0, 955, 60),
  (yX10_isPlace, cX10_isPlace, 2, some .boolean, 9, 1, 1, 26, 981, 60),
  (yX10_form, cX10_form, 3, some .int, 9, 2, 3, 76, 959, 60),
  (yX10_number, cX10_number, 3, some .int, 9, 2, 2, 47, 977, 60),
  (yX10_least, cX10_least, 2, some .int, 9, 1, 2, 47, 985, 60),
  (yX10_keepWay, cX10_keepWay, 1, none, 9, 0, 0, 0, 1001, 60),
  (yX10_step, cX10_step, 2, some .int, 9, 1, 2, 60, 993, 60),
  (yX10_reduce, cX10_reduce, 3, some .int, 9, 1, 3, 81, 1005, 60),
  (yX10_way, cX10_way, 2, some .long, 9, 1, 1, 26, 1013, 60),
  (yX10_ring, cX10_ring, 9, some .int, 9, 1, 3, 81, 1018, 60),
  (yX10_classOf, cX10_classOf, 2, some .int, 9, 1, 4, 102, 1022, 60),
  (yX10_check, cX10_check, 21, some .int, 9, 6, 2, 47, 1030, 60),
  (yX10_isClass, cX10_isClass, 2, some .boolean, 9, 1, 1, 26, 1042, 60),
  (yX10_classes, cX10_classes, 1, some .int, 9, 0, 0, 0, 1034, 60),
  (yX10_head, cX10_head, 4, some .int, 9, 2, 3, 76, 1038, 60),
  (yX10_oneOf, cX10_oneOf, 2, some .int, 9, 0, 4, 102, 1050, 60),
  (yX10_one, cX10_one, 1, some .int, 9, 0, 5, 123, 1046, 60),
  (yX10_common, cX10_common, 21, none, 9, 2, 0, 0, 1062, 60),
  (yX10_joined, cX10_joined, 34, some .int, 9, 2, 4, 102, 1058, 60),
  (yX10_join, cX10_join, 3, some .int, 9, 2, 5, 155, 1054, 60),
  (yX10_back, cX10_back, 3, some .int, 9, 1, 4, 102, 1066, 60),
  (yX10_orderOf, cX10_orderOf, 5, some .int, 9, 1, 5, 155, 1074, 60),
  (yX10_order, cX10_order, 2, some .int, 9, 1, 6, 179, 1070, 60),
  (yX10_findRings, cX10_findRings, 8, none, 9, 0, 6, 179, 1082, 60),
  (yX10_group, cX10_group, 2, some .int, 9, 1, 7, 206, 1078, 60),
  (yX10_findGenera, cX10_findGenera, 4, some .int, 9, 0, 5, 155, 1090, 60),
  (yX10_genus, cX10_genus, 3, some .int, 9, 1, 6, 178, 1086, 60),
  (yX10_genera, cX10_genera, 1, some .int, 9, 0, 6, 178, 1094, 60),
  (yX10_begin, cX10_begin, 7, none, 9, 3, 1, 28, 1102, 60),
  (yX10_goes, cX10_goes, 5, none, 9, 0, 0, 0, 1106, 60),
  (yX10_unit, cX10_unit, 4, some .long, 9, 1, 2, 54, 1098, 60),
  (yX10_isRooted, cX10_isRooted, 4, some .boolean, 9, 1, 1, 28, 1116, 60),
  (yX10_period, cX10_period, 8, some .int, 9, 1, 2, 54, 1112, 60),
  (yX10_quotient, cX10_quotient, 4, some .int, 9, 2, 2, 54, 1121, 60),
  (yX10_near, cX10_near, 5, some .long, 9, 3, 2, 54, 1126, 60),
  (yX10_put, cX10_put, 6, none, 9, 3, 0, 0, 1135, 60),
  (yX10_takes, cX10_takes, 17, some .int, 9, 2, 2, 47, 1130, 60),
  (yX10_proper, cX10_proper, 9, some .int, 9, 2, 4, 102, 1139, 60),
  (yX10_squares, cX10_squares, 7, some .int, 9, 1, 1, 28, 1145, 60),
  (yX10_pair, cX10_pair, 3, some .int, 9, 2, 1, 26, 1150, 60),
  (yX10_size, cX10_size, 2, some .int, 9, 1, 0, 0, 1155, 60),
  (yX10_trouble, cX10_trouble, 1, some .int, 9, 0, 0, 0, 1159, 60),
  (yJ9_floorMod_7cf53, cJ9_floorMod_7cf53, 3, some .int, 11, 2, 0, 0, 356, 61),
  (yJ9_floorMod_f86c9, cJ9_floorMod_f86c9, 6, some .long, 11, 2, 0, 0, 465, 61),
  (yJ9_abs_0f7a4, cJ9_abs_0f7a4, 1, some .int, 11, 1, 0, 0, 734, 61),
  (yJ9_abs_067f4, cJ9_abs_067f4, 2, some .long, 11, 1, 0, 0, 400, 61),
  (yJ9_max_7cf53, cJ9_max_7cf53, 2, some .int, 11, 2, 0, 0, 511, 61),
  (yJ9_min_7cf53, cJ9_min_7cf53, 2, some .int, 11, 2, 0, 0, 419, 61),
  (yL_law, cL_law, 4, some .boolean, 12, 1, 8, 227, 0, 50)]
def q_cal : List (Nat × Nat × Nat × Nat × Nat × Nat × Nat) := [(8, 9, 24, 2, 73, 74, 0), (8, 30, 42, 2, 203, 204, 0), (8, 37, 52, 2, 233, 234, 0), (8, 44, 32, 2, 256, 257, 0), (8, 70, 17, 1, 351, 352, 0), (8, 76, 18, 0, 364, 365, 366), (8, 80, 43, 0, 369, 370, 371), (8, 83, 91, 1, 377, 378, 0), (8, 86, 89, 0, 382, 384, 0), (8, 90, 19, 0, 386, 387, 388), (8, 102, 45, 0, 404, 405, 406), (8, 106, 90, 0, 420, 422, 1), (8, 109, 44, 0, 428, 429, 430), (8, 113, 14, 0, 432, 433, 434), (8, 116, 20, 0, 440, 441, 442), (8, 120, 46, 0, 450, 409, 410), (8, 124, 54, 0, 451, 452, 453), (8, 127, 21, 0, 459, 460, 461), (8, 131, 55, 0, 466, 467, 468), (8, 135, 22, 0, 474, 475, 476), (8, 154, 13, 0, 491, 413, 414), (8, 158, 23, 0, 492, 493, 494), (8, 161, 2, 0, 500, 501, 502), (8, 164, 8, 0, 534, 535, 536), (8, 167, 53, 0, 544, 456, 457), (8, 171, 56, 0, 545, 546, 547), (8, 175, 57, 0, 549, 550, 551), (8, 182, 1, 0, 566, 567, 568), (8, 185, 9, 0, 570, 571, 572), (8, 188, 10, 0, 583, 584, 585), (8, 195, 25, 0, 604, 605, 606), (8, 216, 40, 0, 654, 655, 656), (8, 236, 92, 1, 680, 681, 0), (8, 239, 41, 0, 688, 689, 690), (8, 247, 33, 0, 701, 702, 703), (8, 250, 93, 0, 705, 707, 16), (8, 253, 95, 0, 728, 730, 19), (8, 257, 96, 0, 741, 743, 20), (8, 272, 47, 0, 754, 755, 756), (8, 282, 49, 1, 683, 358, 0), (8, 291, 48, 1, 709, 361, 0), (8, 297, 94, 0, 711, 713, 17), (8, 301, 34, 0, 715, 716, 717), (8, 305, 159, 1, 732, 733, 0), (8, 310, 157, 1, 735, 355, 0), (0, 11, 16, 2, 85, 86, 0), (0, 57, 3, 0, 504, 506, 2), (0, 60, 5, 0, 519, 521, 4), (0, 69, 48, 1, 508, 361, 0), (0, 75, 161, 1, 509, 510, 0), (0, 81, 19, 0, 512, 387, 388), (0, 85, 20, 0, 513, 441, 442), (0, 89, 4, 0, 514, 516, 3), (0, 92, 14, 0, 518, 433, 434), (0, 96, 6, 0, 523, 525, 5), (0, 100, 12, 0, 527, 392, 393), (0, 104, 21, 0, 528, 460, 461), (0, 115, 7, 0, 529, 531, 6), (0, 119, 162, 1, 533, 418, 0), (0, 122, 13, 0, 538, 413, 414), (0, 127, 1, 0, 574, 567, 568), (0, 131, 9, 0, 587, 571, 572), (0, 137, 50, 1, 589, 396, 0), (0, 141, 51, 1, 590, 591, 0), (0, 147, 158, 1, 594, 464, 0), (0, 150, 8, 0, 595, 535, 536), (1, 19, 12, 0, 416, 392, 393), (2, 15, 157, 1, 354, 355, 0), (2, 21, 49, 1, 357, 358, 0), (2, 27, 48, 1, 368, 361, 0), (2, 36, 12, 0, 391, 392, 393), (2, 42, 50, 1, 395, 396, 0), (2, 50, 160, 1, 444, 399, 0), (2, 61, 158, 1, 463, 464, 0), (2, 63, 54, 0, 478, 452, 453), (2, 69, 20, 0, 480, 441, 442), (2, 73, 21, 0, 481, 460, 461), (2, 77, 55, 0, 482, 467, 468), (3, 11, 0, 2, 79, 80, 0), (3, 31, 2, 0, 608, 501, 502), (3, 42, 26, 0, 609, 611, 7), (3, 46, 27, 0, 617, 619, 8), (3, 49, 31, 0, 629, 631, 11), (3, 53, 30, 0, 633, 635, 12), (3, 56, 10, 0, 613, 584, 585), (3, 60, 162, 1, 614, 418, 0), (3, 65, 50, 1, 615, 396, 0), (3, 71, 1, 0, 616, 567, 568), (3, 78, 28, 0, 621, 623, 9), (3, 82, 29, 0, 625, 627, 10), (4, 22, 162, 1, 719, 418, 0), (4, 28, 35, 0, 720, 722, 18), (5, 15, 48, 1, 662, 361, 0), (5, 51, 37, 0, 658, 660, 13), (5, 55, 38, 0, 663, 665, 14), (5, 59, 39, 0, 668, 670, 15), (6, 35, 46, 0, 408, 409, 410), (6, 39, 13, 0, 412, 413, 414), (6, 43, 162, 1, 417, 418, 0), (6, 49, 44, 0, 758, 429, 430), (10, 11, 48, 1, 360, 361, 0), (10, 17, 160, 1, 398, 399, 0), (10, 23, 158, 1, 593, 464, 0), (7, 22, 53, 0, 455, 456, 457), (7, 39, 15, 0, 554, 555, 556), (12, 9, 58, 2, 65, 66, 0), (12, 12, 97, 2, 769, 770, 0), (12, 13, 59, 0, 347, 348, 349), (12, 17, 113, 0, 942, 943, 944), (12, 18, 60, 0, 373, 374, 375), (12, 22, 117, 0, 956, 957, 958), (12, 23, 61, 0, 424, 425, 426), (12, 26, 118, 0, 974, 975, 976), (12, 27, 62, 0, 436, 437, 438), (12, 31, 119, 0, 982, 983, 984), (12, 32, 63, 0, 446, 447, 448), (12, 35, 121, 0, 990, 991, 992), (12, 36, 64, 0, 470, 471, 472), (12, 39, 122, 0, 1002, 1003, 1004), (12, 40, 65, 0, 483, 484, 485), (12, 44, 123, 0, 1010, 1011, 1012), (12, 45, 66, 0, 487, 488, 489), (12, 48, 124, 0, 1015, 1016, 1017), (12, 49, 67, 0, 496, 497, 498), (12, 52, 125, 0, 1019, 1020, 1021), (12, 53, 68, 0, 540, 541, 542), (12, 57, 126, 0, 1027, 1028, 1029), (12, 58, 69, 0, 558, 559, 560), (12, 62, 128, 0, 1031, 1032, 1033), (12, 63, 70, 0, 562, 563, 564), (12, 66, 129, 0, 1035, 1036, 1037), (12, 67, 71, 0, 575, 576, 577), (12, 70, 131, 0, 1043, 1044, 1045), (12, 71, 72, 0, 579, 580, 581), (12, 74, 134, 0, 1051, 1052, 1053), (12, 75, 73, 0, 596, 597, 598), (12, 78, 135, 0, 1063, 1064, 1065), (12, 79, 74, 0, 600, 601, 602), (12, 82, 137, 0, 1067, 1068, 1069), (12, 83, 75, 0, 637, 638, 639), (12, 86, 139, 0, 1075, 1076, 1077), (12, 87, 76, 0, 641, 642, 643), (12, 90, 141, 0, 1083, 1084, 1085), (12, 91, 77, 0, 645, 646, 647), (12, 94, 142, 0, 1091, 1092, 1093), (12, 95, 78, 0, 649, 650, 651), (12, 98, 145, 0, 1095, 1096, 1097), (12, 99, 79, 0, 676, 677, 678), (12, 102, 147, 0, 1109, 1110, 1111), (12, 103, 80, 0, 684, 685, 686), (12, 106, 148, 0, 1118, 1119, 1120), (12, 107, 81, 0, 692, 693, 694), (12, 111, 149, 0, 1123, 1124, 1125), (12, 112, 82, 0, 696, 697, 698), (12, 115, 151, 0, 1127, 1128, 1129), (12, 116, 83, 0, 724, 725, 726), (12, 119, 152, 0, 1136, 1137, 1138), (12, 120, 84, 0, 736, 737, 738), (12, 123, 153, 0, 1142, 1143, 1144), (12, 124, 85, 0, 745, 746, 747), (12, 128, 154, 0, 1147, 1148, 1149), (12, 129, 86, 0, 750, 751, 752), (12, 132, 115, 0, 952, 953, 954), (12, 133, 87, 0, 759, 760, 761), (12, 136, 155, 0, 1152, 1153, 1154), (12, 137, 88, 0, 763, 764, 765), (12, 140, 156, 0, 1156, 1157, 1158), (9, 53, 111, 0, 773, 775, 21), (9, 64, 100, 0, 792, 794, 25), (9, 87, 101, 0, 788, 790, 24), (9, 106, 106, 0, 796, 798, 26), (9, 110, 108, 0, 800, 802, 27), (9, 116, 102, 0, 777, 779, 22), (9, 119, 105, 0, 783, 785, 23), (9, 126, 110, 0, 804, 806, 28), (9, 130, 109, 0, 1006, 1008, 37), (9, 138, 99, 0, 948, 950, 29), (9, 152, 98, 0, 962, 964, 30), (9, 156, 104, 0, 966, 968, 31), (9, 159, 114, 0, 970, 972, 32), (9, 162, 116, 0, 978, 980, 33), (9, 166, 103, 0, 986, 988, 34), (9, 169, 107, 0, 994, 996, 35), (9, 172, 120, 0, 998, 1000, 36), (9, 177, 112, 0, 1023, 1025, 38), (9, 180, 127, 0, 1039, 1041, 39), (9, 183, 130, 0, 1047, 1049, 40), (9, 195, 132, 0, 1059, 1061, 42), (9, 199, 133, 0, 1055, 1057, 41), (9, 203, 136, 0, 1071, 1073, 43), (9, 209, 138, 0, 1079, 1081, 44), (9, 212, 140, 0, 1087, 1089, 45), (9, 248, 143, 0, 1099, 1101, 46), (9, 252, 144, 0, 1103, 1105, 47), (9, 259, 146, 0, 1113, 1115, 48), (9, 266, 150, 0, 1132, 1134, 49), (8, 51, 36, 3, 275, 276, 0), (8, 58, 11, 3, 315, 103, 0), (0, 36, 11, 3, 102, 103, 0), (6, 17, 11, 3, 209, 103, 0)]
def q_obj : List (Nat × Nat × Nat) := [(8, 1, 68), (0, 3, 82), (1, 1, 105), (2, 3, 88), (3, 3, 76), (4, 3, 259), (5, 3, 278), (6, 3, 206), (7, 1, 236), (9, 1, 772)]
def q_kil : List (Nat × Nat × Int32 × Nat) := [(8, 246, 100000, 700), (8, 256, 1000000000, 740), (8, 265, -2147483648, 749), (8, 280, -1000000, 380), (8, 281, 1000000, 381), (0, 126, 100000, 539), (2, 68, 100000, 479), (5, 58, 100000, 667), (10, 22, 100000, 401), (9, 279, -2147483648, 1151)]
def q_kll : List (Nat × Nat × Int64 × Nat) := [(8, 98, -1000000, 402), (8, 100, 1000000, 403), (8, 214, 2, 653), (8, 230, 1000000000000000000, 673), (8, 232, 4, 674), (8, 234, -4, 675), (8, 295, 100000, 710), (0, 135, 2, 588), (2, 34, 4, 390), (2, 56, 2, 445), (5, 49, 1000000000000000000, 672), (10, 9, 32768, 363), (7, 26, 2, 553), (9, 68, 3037000499, 781), (9, 70, 2, 782), (9, 85, 4, 787), (9, 134, -4000, 946), (9, 136, 4000, 947), (9, 148, -1000000, 960), (9, 150, 1000000, 961), (9, 175, 3, 1014), (9, 246, 1000000000000000000, 1107), (9, 255, -4, 1108), (9, 257, 10000, 1117), (9, 262, 1000, 1122), (9, 264, 100000, 1131), (9, 273, -20000, 1140), (9, 275, 20000, 1141), (9, 277, 1000000000, 1146)]
def q_new : List (Nat × Nat × Nat × Nat × Nat × Nat) := [(8, 7, 3, 71, 72, 52), (8, 28, 6, 201, 202, 56), (8, 35, 7, 231, 232, 57), (8, 42, 4, 254, 255, 58), (8, 49, 5, 273, 274, 59), (8, 56, 1, 314, 101, 55), (0, 9, 2, 83, 84, 54), (0, 34, 1, 100, 101, 55), (3, 9, 0, 77, 78, 53), (6, 9, 1, 207, 101, 55), (12, 7, 8, 63, 64, 51), (12, 10, 9, 767, 768, 60)]
abbrev j_X0_init : Nat := 0
abbrev j_X0_hasClass : Nat := 1
abbrev j_X0_prepare : Nat := 2
abbrev j_X0_listLeast : Nat := 3
abbrev j_X0_listWalker : Nat := 4
abbrev j_X0_numberClasses : Nat := 5
abbrev j_X0_markRing : Nat := 6
abbrev j_X0_indexOf : Nat := 7
abbrev j_X0_find : Nat := 8
abbrev j_X0_copyHead : Nat := 9
abbrev j_X0_joined : Nat := 10
abbrev j_X1_init : Nat := 11
abbrev j_X1_put : Nat := 12
abbrev j_X1_copy : Nat := 13
abbrev j_X1_part : Nat := 14
abbrev j_X1_worthAt : Nat := 15
abbrev j_X2_init : Nat := 16
abbrev j_X2_isDiscriminant : Nat := 17
abbrev j_X2_settle : Nat := 18
abbrev j_X2_complete : Nat := 19
abbrev j_X2_isLeast : Nat := 20
abbrev j_X2_advance : Nat := 21
abbrev j_X2_lead : Nat := 22
abbrev j_X2_ringLength : Nat := 23
abbrev j_X3_init : Nat := 24
abbrev j_X3_prepare : Nat := 25
abbrev j_X3_orderChain : Nat := 26
abbrev j_X3_findRings : Nat := 27
abbrev j_X3_countOrders : Nat := 28
abbrev j_X3_widenRing : Nat := 29
abbrev j_X3_numberGenera : Nat := 30
abbrev j_X3_listSquares : Nat := 31
abbrev j_X4_init : Nat := 32
abbrev j_X4_clear : Nat := 33
abbrev j_X4_insert : Nat := 34
abbrev j_X4_isAhead : Nat := 35
abbrev j_X5_init : Nat := 36
abbrev j_X5_begin : Nat := 37
abbrev j_X5_advance : Nat := 38
abbrev j_X5_widenFraction : Nat := 39
abbrev j_X5_goRound : Nat := 40
abbrev j_X5_goTo : Nat := 41
abbrev j_X6_init : Nat := 42
abbrev j_X6_empty : Nat := 43
abbrev j_X6_at : Nat := 44
abbrev j_X6_lay : Nat := 45
abbrev j_X6_remember : Nat := 46
abbrev j_X6_takeBack : Nat := 47
abbrev j_X7_rootOf : Nat := 48
abbrev j_X7_isSquare : Nat := 49
abbrev j_X7_commonDivisor : Nat := 50
abbrev j_X7_factorToDivisor : Nat := 51
abbrev j_X8_init : Nat := 52
abbrev j_X8_put : Nat := 53
abbrev j_X8_reset : Nat := 54
abbrev j_X8_follow : Nat := 55
abbrev j_X8_worth : Nat := 56
abbrev j_X8_leads : Nat := 57
abbrev j_X9_init : Nat := 58
abbrev j_X9_root : Nat := 59
abbrev j_X9_form : Nat := 60
abbrev j_X9_number : Nat := 61
abbrev j_X9_least : Nat := 62
abbrev j_X9_step : Nat := 63
abbrev j_X9_reduce : Nat := 64
abbrev j_X9_way : Nat := 65
abbrev j_X9_ring : Nat := 66
abbrev j_X9_classOf : Nat := 67
abbrev j_X9_check : Nat := 68
abbrev j_X9_classes : Nat := 69
abbrev j_X9_head : Nat := 70
abbrev j_X9_one : Nat := 71
abbrev j_X9_join : Nat := 72
abbrev j_X9_back : Nat := 73
abbrev j_X9_order : Nat := 74
abbrev j_X9_group : Nat := 75
abbrev j_X9_genus : Nat := 76
abbrev j_X9_genera : Nat := 77
abbrev j_X9_unit : Nat := 78
abbrev j_X9_period : Nat := 79
abbrev j_X9_quotient : Nat := 80
abbrev j_X9_near : Nat := 81
abbrev j_X9_takes : Nat := 82
abbrev j_X9_proper : Nat := 83
abbrev j_X9_squares : Nat := 84
abbrev j_X9_pair : Nat := 85
abbrev j_X9_undo : Nat := 86
abbrev j_X9_size : Nat := 87
abbrev j_X9_trouble : Nat := 88
abbrev j_X9_refuse : Nat := 89
abbrev j_X9_accept : Nat := 90
abbrev j_X9_isBeyond : Nat := 91
abbrev j_X9_hasQuotients : Nat := 92
abbrev j_X9_countTaken : Nat := 93
abbrev j_X9_keepTaken : Nat := 94
abbrev j_X9_countProper : Nat := 95
abbrev j_X9_countSquares : Nat := 96
abbrev j_X10_init : Nat := 97
abbrev j_X10_no : Nat := 98
abbrev j_X10_in : Nat := 99
abbrev j_X10_abs : Nat := 100
abbrev j_X10_divisor : Nat := 101
abbrev j_X10_root0 : Nat := 102
abbrev j_X10_take : Nat := 103
abbrev j_X10_lay : Nat := 104
abbrev j_X10_isForm : Nat := 105
abbrev j_X10_isLeast : Nat := 106
abbrev j_X10_noSteps : Nat := 107
abbrev j_X10_steps : Nat := 108
abbrev j_X10_reduces : Nat := 109
abbrev j_X10_indexOf : Nat := 110
abbrev j_X10_becomes : Nat := 111
abbrev j_X10_classHere : Nat := 112
abbrev j_X10_root : Nat := 113
abbrev j_X10_act : Nat := 114
abbrev j_X10_undo : Nat := 115
abbrev j_X10_isPlace : Nat := 116
abbrev j_X10_form : Nat := 117
abbrev j_X10_number : Nat := 118
abbrev j_X10_least : Nat := 119
abbrev j_X10_keepWay : Nat := 120
abbrev j_X10_step : Nat := 121
abbrev j_X10_reduce : Nat := 122
abbrev j_X10_way : Nat := 123
abbrev j_X10_ring : Nat := 124
abbrev j_X10_classOf : Nat := 125
abbrev j_X10_check : Nat := 126
abbrev j_X10_isClass : Nat := 127
abbrev j_X10_classes : Nat := 128
abbrev j_X10_head : Nat := 129
abbrev j_X10_oneOf : Nat := 130
abbrev j_X10_one : Nat := 131
abbrev j_X10_common : Nat := 132
abbrev j_X10_joined : Nat := 133
abbrev j_X10_join : Nat := 134
abbrev j_X10_back : Nat := 135
abbrev j_X10_orderOf : Nat := 136
abbrev j_X10_order : Nat := 137
abbrev j_X10_findRings : Nat := 138
abbrev j_X10_group : Nat := 139
abbrev j_X10_findGenera : Nat := 140
abbrev j_X10_genus : Nat := 141
abbrev j_X10_genera : Nat := 142
abbrev j_X10_begin : Nat := 143
abbrev j_X10_goes : Nat := 144
abbrev j_X10_unit : Nat := 145
abbrev j_X10_isRooted : Nat := 146
abbrev j_X10_period : Nat := 147
abbrev j_X10_quotient : Nat := 148
abbrev j_X10_near : Nat := 149
abbrev j_X10_put : Nat := 150
abbrev j_X10_takes : Nat := 151
abbrev j_X10_proper : Nat := 152
abbrev j_X10_squares : Nat := 153
abbrev j_X10_pair : Nat := 154
abbrev j_X10_size : Nat := 155
abbrev j_X10_trouble : Nat := 156
abbrev j_J9_floorMod_7cf53 : Nat := 157
abbrev j_J9_floorMod_f86c9 : Nat := 158
abbrev j_J9_abs_0f7a4 : Nat := 159
abbrev j_J9_abs_067f4 : Nat := 160
abbrev j_J9_max_7cf53 : Nat := 161
abbrev j_J9_min_7cf53 : Nat := 162
abbrev j_L_law : Nat := 163
set_option maxRecDepth 100000 in
theorem q_codes : ∀ j, j < 163 → lw_tbl[(q_mt.getD j (yL_law, cL_law, 4, some .boolean, 12, 1, 0, 0, 0, 0)).2.2.2.2.2.2.2.2.1]? = some (.code (q_mt.getD j (yL_law, cL_law, 4, some .boolean, 12, 1, 0, 0, 0, 0)).1 (q_mt.getD j (yL_law, cL_law, 4, some .boolean, 12, 1, 0, 0, 0, 0)).2.1 (q_mt.getD j (yL_law, cL_law, 4, some .boolean, 12, 1, 0, 0, 0, 0)).2.2.1 (q_mt.getD j (yL_law, cL_law, 4, some .boolean, 12, 1, 0, 0, 0, 0)).2.2.2.1)
  | 0, _ => rfl
  | 1, _ => rfl
  | 2, _ => rfl
  | 3, _ => rfl
  | 4, _ => rfl
  | 5, _ => rfl
  | 6, _ => rfl
  | 7, _ => rfl
  | 8, _ => rfl
  | 9, _ => rfl
  | 10, _ => rfl
  | 11, _ => rfl
  | 12, _ => rfl
  | 13, _ => rfl
  | 14, _ => rfl
  | 15, _ => rfl
  | 16, _ => rfl
  | 17, _ => rfl
  | 18, _ => rfl
  | 19, _ => rfl
  | 20, _ => rfl
  | 21, _ => rfl
  | 22, _ => rfl
  | 23, _ => rfl
  | 24, _ => rfl
  | 25, _ => rfl
  | 26, _ => rfl
  | 27, _ => rfl
  | 28, _ => rfl
  | 29, _ => rfl
  | 30, _ => rfl
  | 31, _ => rfl
  | 32, _ => rfl
  | 33, _ => rfl
  | 34, _ => rfl
  | 35, _ => rfl
  | 36, _ => rfl
  | 37, _ => rfl
  | 38, _ => rfl
  | 39, _ => rfl
  | 40, _ => rfl
  | 41, _ => rfl
  | 42, _ => rfl
  | 43, _ => rfl
  | 44, _ => rfl
  | 45, _ => rfl
  | 46, _ => rfl
  | 47, _ => rfl
  | 48, _ => rfl
  | 49, _ => rfl
  | 50, _ => rfl
  | 51, _ => rfl
  | 52, _ => rfl
  | 53, _ => rfl
  | 54, _ => rfl
  | 55, _ => rfl
  | 56, _ => rfl
  | 57, _ => rfl
  | 58, _ => rfl
  | 59, _ => rfl
  | 60, _ => rfl
  | 61, _ => rfl
  | 62, _ => rfl
  | 63, _ => rfl
  | 64, _ => rfl
  | 65, _ => rfl
  | 66, _ => rfl
  | 67, _ => rfl
  | 68, _ => rfl
  | 69, _ => rfl
  | 70, _ => rfl
  | 71, _ => rfl
  | 72, _ => rfl
  | 73, _ => rfl
  | 74, _ => rfl
  | 75, _ => rfl
  | 76, _ => rfl
  | 77, _ => rfl
  | 78, _ => rfl
  | 79, _ => rfl
  | 80, _ => rfl
  | 81, _ => rfl
  | 82, _ => rfl
  | 83, _ => rfl
  | 84, _ => rfl
  | 85, _ => rfl
  | 86, _ => rfl
  | 87, _ => rfl
  | 88, _ => rfl
  | 89, _ => rfl
  | 90, _ => rfl
  | 91, _ => rfl
  | 92, _ => rfl
  | 93, _ => rfl
  | 94, _ => rfl
  | 95, _ => rfl
  | 96, _ => rfl
  | 97, _ => rfl
  | 98, _ => rfl
  | 99, _ => rfl
  | 100, _ => rfl
  | 101, _ => rfl
  | 102, _ => rfl
  | 103, _ => rfl
  | 104, _ => rfl
  | 105, _ => rfl
  | 106, _ => rfl
  | 107, _ => rfl
  | 108, _ => rfl
  | 109, _ => rfl
  | 110, _ => rfl
  | 111, _ => rfl
  | 112, _ => rfl
  | 113, _ => rfl
  | 114, _ => rfl
  | 115, _ => rfl
  | 116, _ => rfl
  | 117, _ => rfl
  | 118, _ => rfl
  | 119, _ => rfl
  | 120, _ => rfl
  | 121, _ => rfl
  | 122, _ => rfl
  | 123, _ => rfl
  | 124, _ => rfl
  | 125, _ => rfl
  | 126, _ => rfl
  | 127, _ => rfl
  | 128, _ => rfl
  | 129, _ => rfl
  | 130, _ => rfl
  | 131, _ => rfl
  | 132, _ => rfl
  | 133, _ => rfl
  | 134, _ => rfl
  | 135, _ => rfl
  | 136, _ => rfl
  | 137, _ => rfl
  | 138, _ => rfl
  | 139, _ => rfl
  | 140, _ => rfl
  | 141, _ => rfl
  | 142, _ => rfl
  | 143, _ => rfl
  | 144, _ => rfl
  | 145, _ => rfl
  | 146, _ => rfl
  | 147, _ => rfl
  | 148, _ => rfl
  | 149, _ => rfl
  | 150, _ => rfl
  | 151, _ => rfl
  | 152, _ => rfl
  | 153, _ => rfl
  | 154, _ => rfl
  | 155, _ => rfl
  | 156, _ => rfl
  | 157, _ => rfl
  | 158, _ => rfl
  | 159, _ => rfl
  | 160, _ => rfl
  | 161, _ => rfl
  | 162, _ => rfl
  | n + 163, h => absurd h (by omega)
end
section
/-! the words that every method may use, the table of methods, and a heap as one picture: kinds, ints, longs, references -/
def q_tbl : List Cond := lw_tbl.filter goodWord
theorem q_tbl_of {w : Cond} (i : Nat) (h : lw_tbl[i]? = some w) (hg : goodWord w = true) : w ∈ q_tbl := List.mem_filter.mpr ⟨List.mem_of_getElem? h, hg⟩
def q_m (j : Nat) : q_MT := q_mt.getD j (yL_law, cL_law, 4, some .boolean, 12, 1, 0, 0, 0, 0)
def q_mY (j : Nat) : MethodName := (q_m j).1
def q_cB (j : Nat) : ByteArray := (q_m j).2.1
def q_mL (j : Nat) : Nat := (q_m j).2.2.1
def q_mR (j : Nat) : Option FieldType := (q_m j).2.2.2.1
def q_mC (j : Nat) : Nat := (q_m j).2.2.2.2.1
def q_mN (j : Nat) : Nat := (q_m j).2.2.2.2.2.1
def q_mF (j : Nat) : Nat := (q_m j).2.2.2.2.2.2.1
def q_mW (j : Nat) : Nat := (q_m j).2.2.2.2.2.2.2.1
def q_mP (j : Nat) : Nat := (q_m j).2.2.2.2.2.2.2.2.1
def q_mI (j : Nat) : Nat := (q_m j).2.2.2.2.2.2.2.2.2
def q_wM (j : Nat) : List Cond := .code (q_mY j) (q_cB j) (q_mL j) (q_mR j) :: q_tbl
theorem q_code_at {j : Nat} (h : j < 163) : lw_tbl[q_mP j]? = some (.code (q_mY j) (q_cB j) (q_mL j) (q_mR j)) := q_codes j h
theorem q_code_good (y : MethodName) (c : ByteArray) (n : Nat) (r : Option FieldType) : goodWord (.code y c n r) = true := rfl
def q_mok (j : Nat) : Bool := decide (lw_tbl[q_mI j]? = some (.initialized (q_mY j).cls)) && goodWord (.initialized (q_mY j).cls) && decide (q_cn (q_mC j) = (q_mY j).cls) && plainFor (q_mY j) && decide ((q_mY j).cls ≠ "java/lang/invoke/MethodHandle") && decide ((q_mY j).cls ≠ "java/lang/invoke/VarHandle") && decide ((parseMethodDescriptor (q_mY j).desc).map (fun d => d.parameters.length) = some (q_mN j))
theorem q_mt_ok : (List.range 163).all q_mok = true := by decide +kernel
theorem q_mt_at {j : Nat} (h : j < 163) : (Cond.code (q_mY j) (q_cB j) (q_mL j) (q_mR j) ∈ q_tbl) ∧ (Cond.initialized (q_mY j).cls ∈ q_tbl) ∧ q_cn (q_mC j) = (q_mY j).cls ∧ plainFor (q_mY j) = true ∧ (q_mY j).cls ≠ "java/lang/invoke/MethodHandle" ∧ (q_mY j).cls ≠ "java/lang/invoke/VarHandle" ∧ (parseMethodDescriptor (q_mY j).desc).map (fun d => d.parameters.length) = some (q_mN j) := by
  have h1 := List.all_eq_true.mp q_mt_ok j (List.mem_range.mpr h)
  simp only [q_mok, Bool.and_eq_true, decide_eq_true_eq] at h1
  obtain ⟨⟨⟨⟨⟨⟨a3, a4⟩, a5⟩, a6⟩, a7⟩, a8⟩, a9⟩ := h1
  exact ⟨q_tbl_of _ (q_code_at h) (q_code_good _ _ _ _), q_tbl_of _ a3 a4, a5, a6, a7, a8, a9⟩
theorem q_good (j : Nat) (h : j < 163) : GoodIn q_tbl (q_wM j) := by
  intro w hw
  have hm : w ∈ q_tbl := by
    rcases List.mem_cons.mp hw with e | e
    · rw [e]; exact (q_mt_at h).1
    · exact e
  exact ⟨hm, good_of_word (List.mem_filter.mp hm).2⟩
/-! fields -/
def q_tt (ci : Nat) : u_T := (q_cl.getD ci ("", TX0, 0)).2.1
def q_ty (ci : Nat) : Nat → FieldType := match ci with
  | 0 => tyX0
  | 1 => tyX1
  | 2 => tyX2
  | 3 => tyX3
  | 4 => tyX4
  | 5 => tyX5
  | 6 => tyX6
  | 7 => tyX8
  | 8 => tyX9
  | _ => tyX10
def q_clok (ci : Nat) : Bool := (u_ws (q_cn ci) (q_tt ci) (q_nf ci)).all (fun w => decide (w ∈ lw_tbl) && goodWord w) && decide (q_cl[ci]? = none) == false
theorem q_w0 : ∀ w ∈ u_ws RX0 TX0 12, w ∈ q_tbl := by decide +kernel
theorem q_w1 : ∀ w ∈ u_ws RX1 TX1 3, w ∈ q_tbl := by decide +kernel
theorem q_w2 : ∀ w ∈ u_ws RX2 TX2 2, w ∈ q_tbl := by decide +kernel
theorem q_w3 : ∀ w ∈ u_ws RX3 TX3 8, w ∈ q_tbl := by decide +kernel
theorem q_w4 : ∀ w ∈ u_ws RX4 TX4 3, w ∈ q_tbl := by decide +kernel
theorem q_w5 : ∀ w ∈ u_ws RX5 TX5 10, w ∈ q_tbl := by decide +kernel
theorem q_w6 : ∀ w ∈ u_ws RX6 TX6 6, w ∈ q_tbl := by decide +kernel
theorem q_w8 : ∀ w ∈ u_ws RX8 TX8 4, w ∈ q_tbl := by decide +kernel
theorem q_w9 : ∀ w ∈ u_ws RX9 TX9 10, w ∈ q_tbl := by decide +kernel
theorem q_w10 : ∀ w ∈ u_ws RX10 TX10 44, w ∈ q_tbl := by decide +kernel
def q_fts (ci k : Nat) : Bool := match q_fk ci k, q_ty ci k with
  | 0, .int => true
  | 0, .boolean => true
  | 1, .long => true
  | 2, .object _ => true
  | 2, .array _ => true
  | _, _ => false
theorem q_fts_ok : (List.range 10).all (fun ci => (List.range (q_nf ci)).all (fun k => q_fts ci k)) = true := by decide +kernel
def q_CF (ci : Nat) (C : String) (T : u_T) (N : Nat) : Prop := q_cl[ci]? = some (C, T, N) ∧ q_tt ci = T ∧ q_cn ci = C ∧ N = q_nf ci ∧ (∀ w ∈ u_ws C T N, w ∈ q_tbl) ∧ (∀ k, k < N → parseFieldDescriptor (T k).2.2.1 = some (q_ty ci k)) ∧ (∀ a, a < N → ∀ b, b < N → a ≠ b → (T a).2.1 ≠ (T b).2.1)
theorem q_cf : ∀ ci, ci < 10 → ∃ C T N, q_CF ci C T N
  | 0, _ => ⟨_, _, _, rfl, rfl, rfl, rfl, q_w0, tyX0_ok, nmX0⟩
  | 1, _ => ⟨_, _, _, rfl, rfl, rfl, rfl, q_w1, tyX1_ok, nmX1⟩
  | 2, _ => ⟨_, _, _, rfl, rfl, rfl, rfl, q_w2, tyX2_ok, nmX2⟩
  | 3, _ => ⟨_, _, _, rfl, rfl, rfl, rfl, q_w3, tyX3_ok, nmX3⟩
  | 4, _ => ⟨_, _, _, rfl, rfl, rfl, rfl, q_w4, tyX4_ok, nmX4⟩
  | 5, _ => ⟨_, _, _, rfl, rfl, rfl, rfl, q_w5, tyX5_ok, nmX5⟩
  | 6, _ => ⟨_, _, _, rfl, rfl, rfl, rfl, q_w6, tyX6_ok, nmX6⟩
  | 7, _ => ⟨_, _, _, rfl, rfl, rfl, rfl, q_w8, tyX8_ok, nmX8⟩
  | 8, _ => ⟨_, _, _, rfl, rfl, rfl, rfl, q_w9, tyX9_ok, nmX9⟩
  | 9, _ => ⟨_, _, _, rfl, rfl, rfl, rfl, q_w10, tyX10_ok, nmX10⟩
  | n + 10, h => absurd h (by omega)
def q_fdok (r : Nat × Nat × Nat × Nat × Nat) : Bool := decide (lw_tbl[r.2.2.2.2]? = some (.fieldLink (q_cn r.1) r.2.1 (q_tt r.2.2.1 r.2.2.2.1).1 (q_tt r.2.2.1 r.2.2.2.1).2.1 (q_tt r.2.2.1 r.2.2.2.1).2.2.1)) && goodWord (.fieldLink (q_cn r.1) r.2.1 (q_tt r.2.2.1 r.2.2.2.1).1 (q_tt r.2.2.1 r.2.2.2.1).2.1 (q_tt r.2.2.1 r.2.2.2.1).2.2.1) && decide (r.2.2.1 < 10) && decide (r.2.2.2.1 < q_nf r.2.2.1)
theorem q_fdl_ok : q_fdl.all q_fdok = true := by decide +kernel
def q_fd (c idx ci k : Nat) : Bool := q_fdl.any (fun r => r.1 == c && r.2.1 == idx && r.2.2.1 == ci && r.2.2.2.1 == k)
theorem q_fd_at {c idx ci k : Nat} (h : q_fd c idx ci k = true) : (Cond.fieldLink (q_cn c) idx (q_tt ci k).1 (q_tt ci k).2.1 (q_tt ci k).2.2.1 ∈ q_tbl) ∧ ci < 10 ∧ k < q_nf ci := by
  obtain ⟨r, hr, h2⟩ := List.any_eq_true.mp h
  simp only [Bool.and_eq_true, beq_iff_eq] at h2
  obtain ⟨⟨⟨e1, e2⟩, e3⟩, e4⟩ := h2
  have h1 := List.all_eq_true.mp q_fdl_ok r hr
  simp only [q_fdok, Bool.and_eq_true, decide_eq_true_eq] at h1
  obtain ⟨⟨⟨a1, a2⟩, a3⟩, a4⟩ := h1
  rw [e1, e2, e3, e4] at a1 a2
  rw [e3] at a3 a4
  rw [e4] at a4
  exact ⟨q_tbl_of _ a1 a2, a3, a4⟩
/-! the picture -/
abbrev q_Kd : Type := Nat ⊕ (Nat × Nat)
abbrev q_H : Type := List q_Kd × (Nat → Nat → Int32) × (Nat → Nat → Int64) × (Nat → Nat → Option Nat)
def q_kd (h : q_H) (n : Nat) : Option q_Kd := match n with
  | 0 => none
  | k + 1 => h.1[k]?
def q_tv (ad : Nat → Nat) (v : Value) : Value := match v with
  | .ref n => .ref (ad n)
  | w => w
def q_tl (ad : Nat → Nat) (q : Nat × Value) : Nat × Value := (q.1, q_tv ad q.2)
def q_ad (b base : Nat) (n : Nat) : Nat := match n with
  | 0 => b
  | k + 1 => base + k
def q_av (h : q_H) (ci n k : Nat) : Value := match q_fk ci k with
  | 0 => .int (h.2.1 n k)
  | 1 => .long (h.2.2.1 n k)
  | _ => va_rf (h.2.2.2 n k)
def q_fv (ad : Nat → Nat) (h : q_H) (ci n k : Nat) : Value := match q_fk ci k with
  | 0 => .int (h.2.1 n k)
  | 1 => .long (h.2.2.1 n k)
  | _ => va_rf ((h.2.2.2 n k).map ad)
def q_en (ad cA : Nat → Nat) (h : q_H) (n : Nat) : Nat × va_E := (ad n, match q_kd h n with
  | some (.inl ci) => .inr (ci, (List.range (q_nf ci)).map (q_fv ad h ci n))
  | some (.inr (0, N)) => .inl (cA n, N, .inl (h.2.1 n))
  | some (.inr (1, N)) => .inl (cA n, N, .inr (.inl (h.2.2.1 n)))
  | some (.inr (_, N)) => .inl (cA n, N, .inr (.inr (.inr (.inr (fun j => (h.2.2.2 n j).map ad)))))
  | none => .inr (0, []))
def q_ws (ad cA : Nat → Nat) (h : q_H) : va_W := (List.range h.1.length).map (fun k => q_en ad cA h (k + 1))
def q_sz (x : q_Kd) : Nat := match x with
  | .inl ci => q_nf ci
  | .inr (_, N) => N
def q_sl (h : q_H) : Nat := (h.1.map q_sz).sum
def q_et (t : Nat) : FieldType := match t with
  | 0 => .int
  | 1 => .long
  | _ => .object "RootForms$Form"
def q_u2 {α : Type} (f : Nat → Nat → α) (o k : Nat) (v : α) : Nat → Nat → α := fun a c => if a = o then (if c = k then v else f a c) else f a c
theorem q_tv_rf (ad : Nat → Nat) (r : Option Nat) : q_tv ad (va_rf r) = va_rf (r.map ad) := by cases r <;> rfl
theorem q_tv_av (ad : Nat → Nat) (h : q_H) (ci n k : Nat) : q_tv ad (q_av h ci n k) = q_fv ad h ci n k := by
  unfold q_av q_fv
  split <;> first | rfl | exact q_tv_rf ad _
theorem q_tv_cat (ad : Nat → Nat) (v : Value) : (q_tv ad v).category = v.category := by cases v <;> rfl
theorem q_ws_get {ad cA : Nat → Nat} {h : q_H} {n : Nat} {x : q_Kd} (hn : q_kd h n = some x) : (q_ws ad cA h)[n - 1]? = some (q_en ad cA h n) := by
  cases n with
  | zero => cases hn
  | succ k =>
    have hk : k < h.1.length := (List.getElem?_eq_some_iff.mp hn).1
    simp [q_ws, hk]
theorem q_ws_set {ad cA : Nat → Nat} {h h2 : q_H} {n : Nat} (hK : h2.1 = h.1) (hne : ∀ m, m ≠ n → q_en ad cA h2 m = q_en ad cA h m) (h0 : n ≠ 0) : (q_ws ad cA h).set (n - 1) (q_en ad cA h2 n) = q_ws ad cA h2 := by
  apply List.ext_getElem?
  intro j
  unfold q_ws
  rw [List.getElem?_set, hK]
  by_cases e : n - 1 = j
  · subst e
    have e2 : n - 1 + 1 = n := by omega
    by_cases hl : n - 1 < h.1.length
    · simp [hl, e2]
    · simp [hl]
  · rw [if_neg e]
    simp only [List.getElem?_map]
    by_cases hl : j < h.1.length
    · rw [List.getElem?_range hl]
      simp only [Option.map_some]
      rw [hne (j + 1) (by omega)]
    · simp [hl]
theorem q_ws_len (ad cA : Nat → Nat) (h : q_H) : (q_ws ad cA h).length = h.1.length := by simp [q_ws]
theorem q_ws_at {ad cA : Nat → Nat} {h : q_H} {i : Nat} {x : Nat × va_E} (hx : (q_ws ad cA h)[i]? = some x) : i < h.1.length ∧ x = q_en ad cA h (i + 1) := by
  have hl : i < (q_ws ad cA h).length := (List.getElem?_eq_some_iff.mp hx).1
  rw [q_ws_len] at hl
  refine ⟨hl, ?_⟩
  simp [q_ws, hl] at hx
  exact hx.symm
theorem q_D (b base : Nat) (cA : Nat → Nat) (h : q_H) : va_D (fun q => base ≤ q) (q_ws (q_ad b base) cA h) := by
  refine ⟨fun i j p q hp hq e => ?_, fun k q hq => ?_⟩
  · obtain ⟨-, rfl⟩ := q_ws_at hp
    obtain ⟨-, rfl⟩ := q_ws_at hq
    simp only [q_en, q_ad] at e
    omega
  · obtain ⟨-, rfl⟩ := q_ws_at hq
    simp only [q_en, q_ad]
    omega
end
section
/-! the judgement q_Ex: from a place of a method, with locals, stack and heap as pictures, the method comes to its end with the answer r and the heap h2; q_Ca: a whole call -/
def q_nst : List (String × Nat × MethodName) := [(RX9, 51, yX5_init), (RX9, 58, yX1_init), (RX0, 36, yX1_init), (RX6, 17, yX1_init)]
def q_Nst (U : State) : Prop := (∀ q ∈ q_nst, va_Nw (.methodLinkNest q.1 q.2.1 q.2.2 "RootForms") U) ∧ va_AO "RootForms$Form" U
theorem q_Nst.warm {s U : State} (hW : s.WarmedH U.vm) (h : q_Nst s) : q_Nst U := ⟨fun q hq => va_Nw.warmM hW (h.1 q hq), h.2.moved hW.alike⟩
theorem q_Nst.same {s U : State} (e : s.vm = U.vm) (h : q_Nst s) : q_Nst U := ⟨fun q hq => va_Nw.same rfl e (h.1 q hq), h.2.moved (e ▸ Vm.Alike.refl s.vm)⟩
def q_R (D : va_G) (b base : Nat) (cA : Nat → Nat) (h : q_H) (U : State) (H : Heap) : Prop :=
  va_P D q_cl (q_ws (q_ad b base) cA h) H ∧ H.size = base + h.1.length ∧ va_K D q_cl [] U ∧ (∀ n t N, q_kd h n = some (.inr (t, N)) → va_K D q_cl [(cA n, q_et t)] U) ∧ q_Nst U
theorem q_R.warm {D : va_G} {b base : Nat} {cA : Nat → Nat} {h : q_H} {s U : State} {H : Heap} (hW : s.WarmedH U.vm) (hR : q_R D b base cA h s H) : q_R D b base cA h U H :=
  ⟨hR.1, hR.2.1, va_K.moved hW.alike hR.2.2.1, fun n t N e => va_K.moved hW.alike (hR.2.2.2.1 n t N e), hR.2.2.2.2.warm hW⟩
theorem q_R.same {D : va_G} {b base : Nat} {cA : Nat → Nat} {h : q_H} {s U : State} {H : Heap} (e : s.vm = U.vm) (hR : q_R D b base cA h s H) : q_R D b base cA h U H :=
  ⟨hR.1, hR.2.1, va_K.moved (e ▸ Vm.Alike.refl s.vm) hR.2.2.1, fun n t N e2 => va_K.moved (e ▸ Vm.Alike.refl s.vm) (hR.2.2.2.1 n t N e2), hR.2.2.2.2.same e⟩
def q_Cx (i : Nat) (p : Program) (R : Room) (s : State) (m : MethodId) (args : Array Value) (meth : Method) (c : Code) : Prop :=
  p.tables.exec = Jvm.exec ∧ c.code = q_cB i ∧ meth.sig.returnType = q_mR i ∧ c.maxLocals = q_mL i ∧ s.vm.findClass (q_cn (q_mC i)) = some m.cls ∧ (∀ w ∈ q_tbl, w.before args s = true) ∧ meth.locks = false ∧ ((q_mY i).name = "<init>" → meth.name = "<init>") ∧ q_mF i ≤ R.frames ∧ q_mW i ≤ R.locals
def q_Sc (sc : Option (Nat × (Nat → Int32))) (b base : Nat) (s : State) : Prop := ∀ L xs, sc = some (L, xs) → va_X b L xs s s.heap ∧ b < s.heap.size ∧ b < base
/-- the place where a method ends with the answer r -/
def q_rt (i pc : Nat) (r : Option Value) : Prop := match r with
  | none => decode (q_cB i) pc = .ok (.return_, 1) ∧ q_mR i = none
  | some (.int v) => decode (q_cB i) pc = .ok (.ireturn, 1) ∧ ∃ ty, q_mR i = some ty ∧ narrow ty (.int v) = .int v
  | some (.long _) => decode (q_cB i) pc = .ok (.lreturn, 1) ∧ q_mR i = some .long
  | some (.ref _) => decode (q_cB i) pc = .ok (.areturn, 1) ∧ ∃ n, q_mR i = some (.object n)
  | some .null => decode (q_cB i) pc = .ok (.areturn, 1) ∧ ∃ n, q_mR i = some (.object n)
  | _ => False
def q_Ex (sc : Option (Nat × (Nat → Int32))) (i pc : Nat) (ls : List (Nat × Value)) (st : List Value) (h : q_H) (r : Option Value) (h2 : q_H) : Prop :=
  (h.1.length ≤ h2.1.length ∧ q_sl h ≤ q_sl h2) ∧
  ∀ (p : Program) (l : Launch) (e : Env) (R : Room) (s : State) (m : MethodId) (args : Array Value) (below : List Frame) (meth : Method) (c : Code) (D : va_G) (b base : Nat) (cA : Nat → Nat) (H : Heap) (locs : List Loc) (cells slots s0 : Nat) (lsA : Array Slot) (Q : State → Prop),
    q_Cx i p R s m args meth c → q_R D b base cA h s H → va_S (fun q => base ≤ q) s.heap H locs → base ≤ s.heap.size → q_Sc sc b base s →
    cells + s.heap.size = base + h.1.length → slots + s0 = q_sl h → base + h2.1.length ≤ R.cells + s.heap.size → q_sl h2 ≤ R.slots + s0 →
    lv_has lsA (q_mL i) (ls.map (q_tl (q_ad b base))) →
    (∀ (pcR : Nat) (lsR : Array Slot) (cA2 : Nat → Nat) (H2 : Heap) (locs2 : List Loc) (cells2 slots2 : Nat), q_rt i pcR r → q_R D b base cA2 h2 s H2 → va_S (fun q => base ≤ q) s.heap H2 locs2 → cells2 + s.heap.size = base + h2.1.length → slots2 + s0 = q_sl h2 →
      W p l e R s m args below meth c H2 locs2 cells2 slots2 Q (F0 m pcR lsR (r.toList.map (q_tv (q_ad b base))))) →
    W p l e R s m args below meth c H locs cells slots Q (F0 m pc lsA (st.map (q_tv (q_ad b base))))
def q_Ca (j : Nat) (as : List Value) (h : q_H) (r : Option Value) (h2 : q_H) : Prop :=
  (h.1.length ≤ h2.1.length ∧ q_sl h ≤ q_sl h2) ∧
  ∀ (l : Launch) (D : va_G) (b base : Nat) (cA : Nat → Nat),
    Met l (q_mY j) (q_wM j) { frames := q_mF j, cells := h2.1.length - h.1.length, slots := q_sl h2 - q_sl h, locals := q_mW j }
      (va_Pc (as.map (q_tv (q_ad b base))) (fun U => q_R D b base cA h U U.heap))
      (fun _ st o t => o = .returned (r.map (q_tv (q_ad b base))) ∧ (∃ cA2, q_R D b base cA2 h2 t t.heap) ∧ va_F (fun q => base ≤ q) st t)
      (h2.1.length - h.1.length) (q_sl h2 - q_sl h) (fun q => base ≤ q)
/-! simple steps -/
def q_lk (ls : List (Nat × Value)) (x : Nat) : Option Value := (ls.find? (fun q => q.1 == x)).map (fun q => q.2)
def q_st1 (x : Nat) (v : Value) (ls : List (Nat × Value)) : List (Nat × Value) := (x, v) :: ls.filter (fun q => !(q.1 == x) && !(q.1 + 1 == x && q.2.category == 2))
def q_st2 (x : Nat) (v : Value) (ls : List (Nat × Value)) : List (Nat × Value) := (x, v) :: ls.filter (fun q => !(q.1 == x) && (!(q.1 == x + 1) && !(q.1 + 1 == x && q.2.category == 2)))
theorem q_lk_at {ad : Nat → Nat} {ls : List (Nat × Value)} {x n : Nat} {v : Value} {lsA : Array Slot} (hl : lv_has lsA n (ls.map (q_tl ad))) (h : q_lk ls x = some v) : lsA[x]? = some (.val (q_tv ad v)) := by
  unfold q_lk at h
  cases hf : ls.find? (fun q => q.1 == x) with
  | none => rw [hf] at h; cases h
  | some q =>
    rw [hf] at h
    cases h
    have h1 := List.find?_some hf
    have h2 := List.mem_of_find?_eq_some hf
    have h3 := hl.2.2 (q_tl ad q) (List.mem_map_of_mem h2)
    simp only [beq_iff_eq] at h1
    rw [← h1]
    exact h3
theorem q_st1_map (ad : Nat → Nat) (x : Nat) (v : Value) (ls : List (Nat × Value)) : (x, q_tv ad v) :: (ls.map (q_tl ad)).filter (fun q => !(q.1 == x) && !(q.1 + 1 == x && q.2.category == 2)) = (q_st1 x v ls).map (q_tl ad) := by
  simp only [q_st1, List.map_cons, List.filter_map]
  congr 2
  apply List.filter_congr
  intro q _
  simp [q_tl, q_tv_cat]
theorem q_st2_map (ad : Nat → Nat) (x : Nat) (v : Value) (ls : List (Nat × Value)) : (x, q_tv ad v) :: (ls.map (q_tl ad)).filter (fun q => !(q.1 == x) && (!(q.1 == x + 1) && !(q.1 + 1 == x && q.2.category == 2))) = (q_st2 x v ls).map (q_tl ad) := by
  simp only [q_st2, List.map_cons, List.filter_map]
  congr 2
  apply List.filter_congr
  intro q _
  simp [q_tl, q_tv_cat]
/-- a step that leaves the heap -/
theorem q_go0 {sc : Option (Nat × (Nat → Int32))} {i pc pc2 : Nat} {ls ls2 : List (Nat × Value)} {st st2 : List Value} {h h2 : q_H} {r : Option Value}
    (hW : ∀ (p : Program) (l : Launch) (e : Env) (R : Room) (s : State) (m : MethodId) (args : Array Value) (below : List Frame) (meth : Method) (c : Code) (D : va_G) (b base : Nat) (cA : Nat → Nat) (H : Heap) (locs : List Loc) (cells slots : Nat) (lsA : Array Slot) (Q : State → Prop),
      q_Cx i p R s m args meth c → q_R D b base cA h s H → va_S (fun q => base ≤ q) s.heap H locs → q_Sc sc b base s → lv_has lsA (q_mL i) (ls.map (q_tl (q_ad b base))) →
      (∀ lsB, lv_has lsB (q_mL i) (ls2.map (q_tl (q_ad b base))) → W p l e R s m args below meth c H locs cells slots Q (F0 m pc2 lsB (st2.map (q_tv (q_ad b base))))) →
      W p l e R s m args below meth c H locs cells slots Q (F0 m pc lsA (st.map (q_tv (q_ad b base)))))
    (E : q_Ex sc i pc2 ls2 st2 h r h2) : q_Ex sc i pc ls st h r h2 := by
  refine ⟨E.1, ?_⟩
  intro p l e R s m args below meth c D b base cA H locs cells slots s0 lsA Q C hR hS hb hSc h1 h2 h3 h4 hl k
  exact hW p l e R s m args below meth c D b base cA H locs cells slots lsA Q C hR hS hSc hl (fun lsB hB => E.2 p l e R s m args below meth c D b base cA H locs cells slots s0 lsB Q C hR hS hb hSc h1 h2 h3 h4 hB k)
theorem q_W.sz {p : Program} {l : Launch} {e : Env} {R : Room} {s : State} {m : MethodId} {args : Array Value} {below : List Frame} {meth : Method} {c : Code} {H : Heap} {locs : List Loc} {cells slots : Nat} {Q : State → Prop} {g : JFrame} (k : H.size ≤ s.heap.size + cells → W p l e R s m args below meth c H locs cells slots Q g) : W p l e R s m args below meth c H locs cells slots Q g := by
  intro T hT X
  exact k (by rw [← hT]; exact X.heapSize) T hT X
/-- a step that writes one cell -/
theorem q_go1 {sc : Option (Nat × (Nat → Int32))} {i pc pc2 : Nat} {ls : List (Nat × Value)} {st st2 : List Value} {h h1 h2 : q_H} {r : Option Value} (hK : h1.1 = h.1)
    (hW : ∀ (p : Program) (l : Launch) (e : Env) (R : Room) (s : State) (m : MethodId) (args : Array Value) (below : List Frame) (meth : Method) (c : Code) (D : va_G) (b base : Nat) (cA : Nat → Nat) (H : Heap) (locs : List Loc) (cells slots : Nat) (lsA : Array Slot) (Q : State → Prop),
      q_Cx i p R s m args meth c → q_R D b base cA h s H → va_S (fun q => base ≤ q) H H locs → lv_has lsA (q_mL i) (ls.map (q_tl (q_ad b base))) →
      (∀ (H1 : Heap) (locs1 : List Loc), va_P D q_cl (q_ws (q_ad b base) cA h1) H1 → va_S (fun q => base ≤ q) H H1 locs1 → W p l e R s m args below meth c H1 locs1 cells slots Q (F0 m pc2 lsA (st2.map (q_tv (q_ad b base))))) →
      W p l e R s m args below meth c H locs cells slots Q (F0 m pc lsA (st.map (q_tv (q_ad b base)))))
    (E : q_Ex sc i pc2 ls st2 h1 r h2) : q_Ex sc i pc ls st h r h2 := by
  have hl1 : h1.1.length = h.1.length := by rw [hK]
  have hs1 : q_sl h1 = q_sl h := by unfold q_sl; rw [hK]
  refine ⟨by rw [← hl1, ← hs1]; exact E.1, ?_⟩
  intro p l e R s m args below meth c D b base cA H locs cells slots s0 lsA Q C hR hS hb hSc e1 e2 e3 e4 hl k
  refine hW p l e R s m args below meth c D b base cA H locs cells slots lsA Q C hR ⟨Nat.le_refl _, fun _ _ _ => rfl, hS.2.2⟩ hl ?_
  intro H1 locs1 hP1 hS1
  refine q_W.sz (fun hz => ?_)
  have hz2 : H1.size = base + h1.1.length := by
    have a1 := hS1.1
    have a2 := hR.2.1
    rw [hl1]
    omega
  refine E.2 p l e R s m args below meth c D b base cA H1 locs1 cells slots s0 lsA Q C ⟨hP1, hz2, hR.2.2.1, ?_, hR.2.2.2.2⟩ ⟨Nat.le_trans hS.1 hS1.1, fun q g1 g2 => (hS1.2.1 q (Nat.lt_of_lt_of_le g1 hS.1) g2).trans (hS.2.1 q g1 g2), hS1.2.2⟩ hb hSc (by rw [hl1]; exact e1) (by rw [hs1]; exact e2) e3 e4 hl k
  intro n t N hn
  refine hR.2.2.2.1 n t N ?_
  cases n with
  | zero => cases hn
  | succ n => exact (congrArg (fun z => z[n]?) hK).symm.trans hn
end
section
/-! one theorem an instruction, over the picture (written by wip/whole/gen4.py) -/
theorem q_x_iadd {sc : Option (Nat × (Nat → Int32))} {i pc : Nat} {ls : List (Nat × Value)} {st : List Value} {h h2 : q_H} {r : Option Value} {x y : Int32} (hd : decode (q_cB i) pc = .ok (.iadd, 1)) (E : q_Ex sc i (pc + 1) ls (.int (x + y) :: st) h r h2) : q_Ex sc i pc ls (.int y :: .int x :: st) h r h2 := q_go0 (fun p l e R s m args below meth c D b base cA H locs cells slots lsA Q C hR hS hSc hl kk => lv_iadd C.1 C.2.1 hd (kk lsA hl)) E
theorem q_x_isub {sc : Option (Nat × (Nat → Int32))} {i pc : Nat} {ls : List (Nat × Value)} {st : List Value} {h h2 : q_H} {r : Option Value} {x y : Int32} (hd : decode (q_cB i) pc = .ok (.isub, 1)) (E : q_Ex sc i (pc + 1) ls (.int (x - y) :: st) h r h2) : q_Ex sc i pc ls (.int y :: .int x :: st) h r h2 := q_go0 (fun p l e R s m args below meth c D b base cA H locs cells slots lsA Q C hR hS hSc hl kk => lv_isub C.1 C.2.1 hd (kk lsA hl)) E
theorem q_x_imul {sc : Option (Nat × (Nat → Int32))} {i pc : Nat} {ls : List (Nat × Value)} {st : List Value} {h h2 : q_H} {r : Option Value} {x y : Int32} (hd : decode (q_cB i) pc = .ok (.imul, 1)) (E : q_Ex sc i (pc + 1) ls (.int (x * y) :: st) h r h2) : q_Ex sc i pc ls (.int y :: .int x :: st) h r h2 := q_go0 (fun p l e R s m args below meth c D b base cA H locs cells slots lsA Q C hR hS hSc hl kk => lv_imul C.1 C.2.1 hd (kk lsA hl)) E
theorem q_x_iand {sc : Option (Nat × (Nat → Int32))} {i pc : Nat} {ls : List (Nat × Value)} {st : List Value} {h h2 : q_H} {r : Option Value} {x y : Int32} (hd : decode (q_cB i) pc = .ok (.iand, 1)) (E : q_Ex sc i (pc + 1) ls (.int (x &&& y) :: st) h r h2) : q_Ex sc i pc ls (.int y :: .int x :: st) h r h2 := q_go0 (fun p l e R s m args below meth c D b base cA H locs cells slots lsA Q C hR hS hSc hl kk => lv_iand C.1 C.2.1 hd (kk lsA hl)) E
theorem q_x_ixor {sc : Option (Nat × (Nat → Int32))} {i pc : Nat} {ls : List (Nat × Value)} {st : List Value} {h h2 : q_H} {r : Option Value} {x y : Int32} (hd : decode (q_cB i) pc = .ok (.ixor, 1)) (E : q_Ex sc i (pc + 1) ls (.int (x ^^^ y) :: st) h r h2) : q_Ex sc i pc ls (.int y :: .int x :: st) h r h2 := q_go0 (fun p l e R s m args below meth c D b base cA H locs cells slots lsA Q C hR hS hSc hl kk => lv_ixor C.1 C.2.1 hd (kk lsA hl)) E
theorem q_x_ladd {sc : Option (Nat × (Nat → Int32))} {i pc : Nat} {ls : List (Nat × Value)} {st : List Value} {h h2 : q_H} {r : Option Value} {x y : Int64} (hd : decode (q_cB i) pc = .ok (.ladd, 1)) (E : q_Ex sc i (pc + 1) ls (.long (x + y) :: st) h r h2) : q_Ex sc i pc ls (.long y :: .long x :: st) h r h2 := q_go0 (fun p l e R s m args below meth c D b base cA H locs cells slots lsA Q C hR hS hSc hl kk => lv_ladd C.1 C.2.1 hd (kk lsA hl)) E
theorem q_x_lsub {sc : Option (Nat × (Nat → Int32))} {i pc : Nat} {ls : List (Nat × Value)} {st : List Value} {h h2 : q_H} {r : Option Value} {x y : Int64} (hd : decode (q_cB i) pc = .ok (.lsub, 1)) (E : q_Ex sc i (pc + 1) ls (.long (x - y) :: st) h r h2) : q_Ex sc i pc ls (.long y :: .long x :: st) h r h2 := q_go0 (fun p l e R s m args below meth c D b base cA H locs cells slots lsA Q C hR hS hSc hl kk => lv_lsub C.1 C.2.1 hd (kk lsA hl)) E
theorem q_x_lmul {sc : Option (Nat × (Nat → Int32))} {i pc : Nat} {ls : List (Nat × Value)} {st : List Value} {h h2 : q_H} {r : Option Value} {x y : Int64} (hd : decode (q_cB i) pc = .ok (.lmul, 1)) (E : q_Ex sc i (pc + 1) ls (.long (x * y) :: st) h r h2) : q_Ex sc i pc ls (.long y :: .long x :: st) h r h2 := q_go0 (fun p l e R s m args below meth c D b base cA H locs cells slots lsA Q C hR hS hSc hl kk => lv_lmul C.1 C.2.1 hd (kk lsA hl)) E
theorem q_x_lxor {sc : Option (Nat × (Nat → Int32))} {i pc : Nat} {ls : List (Nat × Value)} {st : List Value} {h h2 : q_H} {r : Option Value} {x y : Int64} (hd : decode (q_cB i) pc = .ok (.lxor, 1)) (E : q_Ex sc i (pc + 1) ls (.long (x ^^^ y) :: st) h r h2) : q_Ex sc i pc ls (.long y :: .long x :: st) h r h2 := q_go0 (fun p l e R s m args below meth c D b base cA H locs cells slots lsA Q C hR hS hSc hl kk => lv_lxor C.1 C.2.1 hd (kk lsA hl)) E
theorem q_x_idiv {sc : Option (Nat × (Nat → Int32))} {i pc : Nat} {ls : List (Nat × Value)} {st : List Value} {h h2 : q_H} {r : Option Value} {x y : Int32} (h0 : ¬ y = 0) (hd : decode (q_cB i) pc = .ok (.idiv, 1)) (E : q_Ex sc i (pc + 1) ls (.int (x / y) :: st) h r h2) : q_Ex sc i pc ls (.int y :: .int x :: st) h r h2 := q_go0 (fun p l e R s m args below meth c D b base cA H locs cells slots lsA Q C hR hS hSc hl kk => lv_idiv C.1 C.2.1 hd h0 (kk lsA hl)) E
theorem q_x_irem {sc : Option (Nat × (Nat → Int32))} {i pc : Nat} {ls : List (Nat × Value)} {st : List Value} {h h2 : q_H} {r : Option Value} {x y : Int32} (h0 : ¬ y = 0) (hd : decode (q_cB i) pc = .ok (.irem, 1)) (E : q_Ex sc i (pc + 1) ls (.int (x - x / y * y) :: st) h r h2) : q_Ex sc i pc ls (.int y :: .int x :: st) h r h2 := q_go0 (fun p l e R s m args below meth c D b base cA H locs cells slots lsA Q C hR hS hSc hl kk => lv_irem C.1 C.2.1 hd h0 (kk lsA hl)) E
theorem q_x_ldiv {sc : Option (Nat × (Nat → Int32))} {i pc : Nat} {ls : List (Nat × Value)} {st : List Value} {h h2 : q_H} {r : Option Value} {x y : Int64} (h0 : ¬ y = 0) (hd : decode (q_cB i) pc = .ok (.ldiv, 1)) (E : q_Ex sc i (pc + 1) ls (.long (x / y) :: st) h r h2) : q_Ex sc i pc ls (.long y :: .long x :: st) h r h2 := q_go0 (fun p l e R s m args below meth c D b base cA H locs cells slots lsA Q C hR hS hSc hl kk => lv_ldiv C.1 C.2.1 hd h0 (kk lsA hl)) E
theorem q_x_lrem {sc : Option (Nat × (Nat → Int32))} {i pc : Nat} {ls : List (Nat × Value)} {st : List Value} {h h2 : q_H} {r : Option Value} {x y : Int64} (h0 : ¬ y = 0) (hd : decode (q_cB i) pc = .ok (.lrem, 1)) (E : q_Ex sc i (pc + 1) ls (.long (x - x / y * y) :: st) h r h2) : q_Ex sc i pc ls (.long y :: .long x :: st) h r h2 := q_go0 (fun p l e R s m args below meth c D b base cA H locs cells slots lsA Q C hR hS hSc hl kk => lv_lrem C.1 C.2.1 hd h0 (kk lsA hl)) E
theorem q_x_ineg {sc : Option (Nat × (Nat → Int32))} {i pc : Nat} {ls : List (Nat × Value)} {st : List Value} {h h2 : q_H} {r : Option Value} {x : Int32} (hd : decode (q_cB i) pc = .ok (.ineg, 1)) (E : q_Ex sc i (pc + 1) ls (.int (-x) :: st) h r h2) : q_Ex sc i pc ls (.int x :: st) h r h2 := q_go0 (fun p l e R s m args below meth c D b base cA H locs cells slots lsA Q C hR hS hSc hl kk => lv_ineg C.1 C.2.1 hd (kk lsA hl)) E
theorem q_x_lneg {sc : Option (Nat × (Nat → Int32))} {i pc : Nat} {ls : List (Nat × Value)} {st : List Value} {h h2 : q_H} {r : Option Value} {x : Int64} (hd : decode (q_cB i) pc = .ok (.lneg, 1)) (E : q_Ex sc i (pc + 1) ls (.long (-x) :: st) h r h2) : q_Ex sc i pc ls (.long x :: st) h r h2 := q_go0 (fun p l e R s m args below meth c D b base cA H locs cells slots lsA Q C hR hS hSc hl kk => lv_lneg C.1 C.2.1 hd (kk lsA hl)) E
theorem q_x_i2l {sc : Option (Nat × (Nat → Int32))} {i pc : Nat} {ls : List (Nat × Value)} {st : List Value} {h h2 : q_H} {r : Option Value} {x : Int32} (hd : decode (q_cB i) pc = .ok (.i2l, 1)) (E : q_Ex sc i (pc + 1) ls (.long x.toInt64 :: st) h r h2) : q_Ex sc i pc ls (.int x :: st) h r h2 := q_go0 (fun p l e R s m args below meth c D b base cA H locs cells slots lsA Q C hR hS hSc hl kk => lv_i2l C.1 C.2.1 hd rfl (kk lsA hl)) E
theorem q_x_l2i {sc : Option (Nat × (Nat → Int32))} {i pc : Nat} {ls : List (Nat × Value)} {st : List Value} {h h2 : q_H} {r : Option Value} {x : Int64} (hd : decode (q_cB i) pc = .ok (.l2i, 1)) (E : q_Ex sc i (pc + 1) ls (.int x.toInt32 :: st) h r h2) : q_Ex sc i pc ls (.long x :: st) h r h2 := q_go0 (fun p l e R s m args below meth c D b base cA H locs cells slots lsA Q C hR hS hSc hl kk => lv_l2i C.1 C.2.1 hd rfl (kk lsA hl)) E
theorem q_x_lshr {sc : Option (Nat × (Nat → Int32))} {i pc : Nat} {ls : List (Nat × Value)} {st : List Value} {h h2 : q_H} {r : Option Value} {x : Int64} {y : Int32} (hd : decode (q_cB i) pc = .ok (.lshr, 1)) (E : q_Ex sc i (pc + 1) ls (.long (x >>> (y.toInt64 &&& 63)) :: st) h r h2) : q_Ex sc i pc ls (.int y :: .long x :: st) h r h2 := q_go0 (fun p l e R s m args below meth c D b base cA H locs cells slots lsA Q C hR hS hSc hl kk => lv_lshr C.1 C.2.1 hd rfl (kk lsA hl)) E
theorem q_x_lcmp {sc : Option (Nat × (Nat → Int32))} {i pc : Nat} {ls : List (Nat × Value)} {st : List Value} {h h2 : q_H} {r : Option Value} {x y : Int64} (hd : decode (q_cB i) pc = .ok (.lcmp, 1)) (E : q_Ex sc i (pc + 1) ls (.int (lg_cmp x y) :: st) h r h2) : q_Ex sc i pc ls (.long y :: .long x :: st) h r h2 := q_go0 (fun p l e R s m args below meth c D b base cA H locs cells slots lsA Q C hR hS hSc hl kk => W.lcmp C.1 C.2.1 hd (kk lsA hl)) E
theorem q_x_null {sc : Option (Nat × (Nat → Int32))} {i pc : Nat} {ls : List (Nat × Value)} {st : List Value} {h h2 : q_H} {r : Option Value}  (hd : decode (q_cB i) pc = .ok (.aconst_null, 1)) (E : q_Ex sc i (pc + 1) ls (.null :: st) h r h2) : q_Ex sc i pc ls (st) h r h2 := q_go0 (fun p l e R s m args below meth c D b base cA H locs cells slots lsA Q C hR hS hSc hl kk => lv_null C.1 C.2.1 hd (kk lsA hl)) E
theorem q_x_iconst {sc : Option (Nat × (Nat → Int32))} {i pc : Nat} {ls : List (Nat × Value)} {st : List Value} {h h2 : q_H} {r : Option Value} {n : Int} {v : Int32} (hv : Int32.ofInt n = v) (hd : decode (q_cB i) pc = .ok (.iconst n, 1)) (E : q_Ex sc i (pc + 1) ls (.int v :: st) h r h2) : q_Ex sc i pc ls (st) h r h2 := q_go0 (fun p l e R s m args below meth c D b base cA H locs cells slots lsA Q C hR hS hSc hl kk => lv_iconst C.1 C.2.1 hd hv (kk lsA hl)) E
theorem q_x_bipush {sc : Option (Nat × (Nat → Int32))} {i pc : Nat} {ls : List (Nat × Value)} {st : List Value} {h h2 : q_H} {r : Option Value} {n : Int} {v : Int32} (hv : (Int8.ofInt n).toInt32 = v) (hd : decode (q_cB i) pc = .ok (.bipush n, 2)) (E : q_Ex sc i (pc + 2) ls (.int v :: st) h r h2) : q_Ex sc i pc ls (st) h r h2 := q_go0 (fun p l e R s m args below meth c D b base cA H locs cells slots lsA Q C hR hS hSc hl kk => lv_bipush C.1 C.2.1 hd hv (kk lsA hl)) E
theorem q_x_sipush {sc : Option (Nat × (Nat → Int32))} {i pc : Nat} {ls : List (Nat × Value)} {st : List Value} {h h2 : q_H} {r : Option Value} {n : Int} {v : Int32} (hv : (Int16.ofInt n).toInt32 = v) (hd : decode (q_cB i) pc = .ok (.sipush n, 3)) (E : q_Ex sc i (pc + 3) ls (.int v :: st) h r h2) : q_Ex sc i pc ls (st) h r h2 := q_go0 (fun p l e R s m args below meth c D b base cA H locs cells slots lsA Q C hR hS hSc hl kk => lv_sipush C.1 C.2.1 hd hv (kk lsA hl)) E
theorem q_x_lconst {sc : Option (Nat × (Nat → Int32))} {i pc : Nat} {ls : List (Nat × Value)} {st : List Value} {h h2 : q_H} {r : Option Value} {n : Fin 2} {v : Int64} (hv : Int64.ofNat (n : Nat) = v) (hd : decode (q_cB i) pc = .ok (.lconst n, 1)) (E : q_Ex sc i (pc + 1) ls (.long v :: st) h r h2) : q_Ex sc i pc ls (st) h r h2 := q_go0 (fun p l e R s m args below meth c D b base cA H locs cells slots lsA Q C hR hS hSc hl kk => lv_lconst C.1 C.2.1 hd hv (kk lsA hl)) E
theorem q_x_dup_int {sc : Option (Nat × (Nat → Int32))} {i pc : Nat} {ls : List (Nat × Value)} {st : List Value} {h h2 : q_H} {r : Option Value} {x : Int32} (hd : decode (q_cB i) pc = .ok (.dup, 1)) (E : q_Ex sc i (pc + 1) ls (.int x :: .int x :: st) h r h2) : q_Ex sc i pc ls (.int x :: st) h r h2 := q_go0 (fun p l e R s m args below meth c D b base cA H locs cells slots lsA Q C hR hS hSc hl kk => lv_dup C.1 C.2.1 hd rfl (kk lsA hl)) E
theorem q_x_pop_int {sc : Option (Nat × (Nat → Int32))} {i pc : Nat} {ls : List (Nat × Value)} {st : List Value} {h h2 : q_H} {r : Option Value} {x : Int32} (hd : decode (q_cB i) pc = .ok (.pop, 1)) (E : q_Ex sc i (pc + 1) ls (st) h r h2) : q_Ex sc i pc ls (.int x :: st) h r h2 := q_go0 (fun p l e R s m args below meth c D b base cA H locs cells slots lsA Q C hR hS hSc hl kk => lv_pop C.1 C.2.1 hd rfl (kk lsA hl)) E
theorem q_x_dup_ref {sc : Option (Nat × (Nat → Int32))} {i pc : Nat} {ls : List (Nat × Value)} {st : List Value} {h h2 : q_H} {r : Option Value} {x : Nat} (hd : decode (q_cB i) pc = .ok (.dup, 1)) (E : q_Ex sc i (pc + 1) ls (.ref x :: .ref x :: st) h r h2) : q_Ex sc i pc ls (.ref x :: st) h r h2 := q_go0 (fun p l e R s m args below meth c D b base cA H locs cells slots lsA Q C hR hS hSc hl kk => lv_dup C.1 C.2.1 hd rfl (kk lsA hl)) E
theorem q_x_pop_ref {sc : Option (Nat × (Nat → Int32))} {i pc : Nat} {ls : List (Nat × Value)} {st : List Value} {h h2 : q_H} {r : Option Value} {x : Nat} (hd : decode (q_cB i) pc = .ok (.pop, 1)) (E : q_Ex sc i (pc + 1) ls (st) h r h2) : q_Ex sc i pc ls (.ref x :: st) h r h2 := q_go0 (fun p l e R s m args below meth c D b base cA H locs cells slots lsA Q C hR hS hSc hl kk => lv_pop C.1 C.2.1 hd rfl (kk lsA hl)) E
theorem q_x_dup_nul {sc : Option (Nat × (Nat → Int32))} {i pc : Nat} {ls : List (Nat × Value)} {st : List Value} {h h2 : q_H} {r : Option Value}  (hd : decode (q_cB i) pc = .ok (.dup, 1)) (E : q_Ex sc i (pc + 1) ls (.null :: .null :: st) h r h2) : q_Ex sc i pc ls (.null :: st) h r h2 := q_go0 (fun p l e R s m args below meth c D b base cA H locs cells slots lsA Q C hR hS hSc hl kk => lv_dup C.1 C.2.1 hd rfl (kk lsA hl)) E
theorem q_x_pop_nul {sc : Option (Nat × (Nat → Int32))} {i pc : Nat} {ls : List (Nat × Value)} {st : List Value} {h h2 : q_H} {r : Option Value}  (hd : decode (q_cB i) pc = .ok (.pop, 1)) (E : q_Ex sc i (pc + 1) ls (st) h r h2) : q_Ex sc i pc ls (.null :: st) h r h2 := q_go0 (fun p l e R s m args below meth c D b base cA H locs cells slots lsA Q C hR hS hSc hl kk => lv_pop C.1 C.2.1 hd rfl (kk lsA hl)) E
theorem q_x_dup2_ia {sc : Option (Nat × (Nat → Int32))} {i pc : Nat} {ls : List (Nat × Value)} {st : List Value} {h h2 : q_H} {r : Option Value} {x : Int32} {a : Nat} (hd : decode (q_cB i) pc = .ok (.dup2, 1)) (E : q_Ex sc i (pc + 1) ls (.int x :: .ref a :: .int x :: .ref a :: st) h r h2) : q_Ex sc i pc ls (.int x :: .ref a :: st) h r h2 := q_go0 (fun p l e R s m args below meth c D b base cA H locs cells slots lsA Q C hR hS hSc hl kk => lv_dup2_11 C.1 C.2.1 hd rfl rfl (kk lsA hl)) E
theorem q_x_dup2_l {sc : Option (Nat × (Nat → Int32))} {i pc : Nat} {ls : List (Nat × Value)} {st : List Value} {h h2 : q_H} {r : Option Value} {x : Int64} (hd : decode (q_cB i) pc = .ok (.dup2, 1)) (E : q_Ex sc i (pc + 1) ls (.long x :: .long x :: st) h r h2) : q_Ex sc i pc ls (.long x :: st) h r h2 := q_go0 (fun p l e R s m args below meth c D b base cA H locs cells slots lsA Q C hR hS hSc hl kk => lv_dup2_2 C.1 C.2.1 hd rfl (kk lsA hl)) E
theorem q_x_pop2_l {sc : Option (Nat × (Nat → Int32))} {i pc : Nat} {ls : List (Nat × Value)} {st : List Value} {h h2 : q_H} {r : Option Value} {x : Int64} (hd : decode (q_cB i) pc = .ok (.pop2, 1)) (E : q_Ex sc i (pc + 1) ls (st) h r h2) : q_Ex sc i pc ls (.long x :: st) h r h2 := q_go0 (fun p l e R s m args below meth c D b base cA H locs cells slots lsA Q C hR hS hSc hl kk => lv_pop2_2 C.1 C.2.1 hd rfl (kk lsA hl)) E
theorem q_x_ldc {sc : Option (Nat × (Nat → Int32))} {i pc : Nat} {ls : List (Nat × Value)} {st : List Value} {h h2 : q_H} {r : Option Value} {idx : Nat} {v : Int32} (hw : Cond.constant (q_cn (q_mC i)) idx v ∈ q_tbl) (hd : decode (q_cB i) pc = .ok (.ldc idx, 2)) (E : q_Ex sc i (pc + 2) ls (.int v :: st) h r h2) : q_Ex sc i pc ls st h r h2 := q_go0 (fun p l e R s m args below meth c D b base cA H locs cells slots lsA Q C hR hS hSc hl kk => lv_ldc C.1 C.2.1 C.2.2.2.2.1 (C.2.2.2.2.2.1 _ hw) hd (kk lsA hl)) E
theorem q_x_ldcw {sc : Option (Nat × (Nat → Int32))} {i pc : Nat} {ls : List (Nat × Value)} {st : List Value} {h h2 : q_H} {r : Option Value} {idx : Nat} {v : Int32} (hw : Cond.constant (q_cn (q_mC i)) idx v ∈ q_tbl) (hd : decode (q_cB i) pc = .ok (.ldc_w idx, 3)) (E : q_Ex sc i (pc + 3) ls (.int v :: st) h r h2) : q_Ex sc i pc ls st h r h2 := q_go0 (fun p l e R s m args below meth c D b base cA H locs cells slots lsA Q C hR hS hSc hl kk => lv_ldcw C.1 C.2.1 C.2.2.2.2.1 (C.2.2.2.2.2.1 _ hw) hd (kk lsA hl)) E
theorem q_x_ldc2 {sc : Option (Nat × (Nat → Int32))} {i pc : Nat} {ls : List (Nat × Value)} {st : List Value} {h h2 : q_H} {r : Option Value} {idx : Nat} {v : Int64} (hw : Cond.constantLong (q_cn (q_mC i)) idx v ∈ q_tbl) (hd : decode (q_cB i) pc = .ok (.ldc2_w idx, 3)) (E : q_Ex sc i (pc + 3) ls (.long v :: st) h r h2) : q_Ex sc i pc ls st h r h2 := q_go0 (fun p l e R s m args below meth c D b base cA H locs cells slots lsA Q C hR hS hSc hl kk => lv_ldc2 C.1 C.2.1 C.2.2.2.2.1 (C.2.2.2.2.2.1 _ hw) hd (kk lsA hl)) E
theorem q_x_iload {sc : Option (Nat × (Nat → Int32))} {i pc : Nat} {ls : List (Nat × Value)} {st : List Value} {h h2 : q_H} {r : Option Value} {k : Nat} {x : Int32} (hk : q_lk ls k = some (.int x)) (hd : decode (q_cB i) pc = .ok (.iload k, 2)) (E : q_Ex sc i (pc + 2) ls (.int x :: st) h r h2) : q_Ex sc i pc ls st h r h2 := q_go0 (fun p l e R s m args below meth c D b base cA H locs cells slots lsA Q C hR hS hSc hl kk => lv_iload C.1 C.2.1 hd (q_lk_at hl hk) (kk lsA hl)) E
theorem q_x_iload_n {sc : Option (Nat × (Nat → Int32))} {i pc : Nat} {ls : List (Nat × Value)} {st : List Value} {h h2 : q_H} {r : Option Value} {k : Fin 4} {x : Int32} (hk : q_lk ls k.val = some (.int x)) (hd : decode (q_cB i) pc = .ok (.iload_n k, 1)) (E : q_Ex sc i (pc + 1) ls (.int x :: st) h r h2) : q_Ex sc i pc ls st h r h2 := q_go0 (fun p l e R s m args below meth c D b base cA H locs cells slots lsA Q C hR hS hSc hl kk => lv_iload_n C.1 C.2.1 hd rfl (q_lk_at hl hk) (kk lsA hl)) E
theorem q_x_lload {sc : Option (Nat × (Nat → Int32))} {i pc : Nat} {ls : List (Nat × Value)} {st : List Value} {h h2 : q_H} {r : Option Value} {k : Nat} {x : Int64} (hk : q_lk ls k = some (.long x)) (hd : decode (q_cB i) pc = .ok (.lload k, 2)) (E : q_Ex sc i (pc + 2) ls (.long x :: st) h r h2) : q_Ex sc i pc ls st h r h2 := q_go0 (fun p l e R s m args below meth c D b base cA H locs cells slots lsA Q C hR hS hSc hl kk => lv_lload C.1 C.2.1 hd (q_lk_at hl hk) (kk lsA hl)) E
theorem q_x_lload_n {sc : Option (Nat × (Nat → Int32))} {i pc : Nat} {ls : List (Nat × Value)} {st : List Value} {h h2 : q_H} {r : Option Value} {k : Fin 4} {x : Int64} (hk : q_lk ls k.val = some (.long x)) (hd : decode (q_cB i) pc = .ok (.lload_n k, 1)) (E : q_Ex sc i (pc + 1) ls (.long x :: st) h r h2) : q_Ex sc i pc ls st h r h2 := q_go0 (fun p l e R s m args below meth c D b base cA H locs cells slots lsA Q C hR hS hSc hl kk => lv_lload_n C.1 C.2.1 hd rfl (q_lk_at hl hk) (kk lsA hl)) E
theorem q_x_aload {sc : Option (Nat × (Nat → Int32))} {i pc : Nat} {ls : List (Nat × Value)} {st : List Value} {h h2 : q_H} {r : Option Value} {k : Nat} {x : Nat} (hk : q_lk ls k = some (.ref x)) (hd : decode (q_cB i) pc = .ok (.aload k, 2)) (E : q_Ex sc i (pc + 2) ls (.ref x :: st) h r h2) : q_Ex sc i pc ls st h r h2 := q_go0 (fun p l e R s m args below meth c D b base cA H locs cells slots lsA Q C hR hS hSc hl kk => lv_aload C.1 C.2.1 hd (q_lk_at hl hk) (kk lsA hl)) E
theorem q_x_aload_n {sc : Option (Nat × (Nat → Int32))} {i pc : Nat} {ls : List (Nat × Value)} {st : List Value} {h h2 : q_H} {r : Option Value} {k : Fin 4} {x : Nat} (hk : q_lk ls k.val = some (.ref x)) (hd : decode (q_cB i) pc = .ok (.aload_n k, 1)) (E : q_Ex sc i (pc + 1) ls (.ref x :: st) h r h2) : q_Ex sc i pc ls st h r h2 := q_go0 (fun p l e R s m args below meth c D b base cA H locs cells slots lsA Q C hR hS hSc hl kk => lv_aload_n C.1 C.2.1 hd rfl (q_lk_at hl hk) (kk lsA hl)) E
theorem q_x_aloadN {sc : Option (Nat × (Nat → Int32))} {i pc : Nat} {ls : List (Nat × Value)} {st : List Value} {h h2 : q_H} {r : Option Value} {k : Nat}  (hk : q_lk ls k = some (.null)) (hd : decode (q_cB i) pc = .ok (.aload k, 2)) (E : q_Ex sc i (pc + 2) ls (.null :: st) h r h2) : q_Ex sc i pc ls st h r h2 := q_go0 (fun p l e R s m args below meth c D b base cA H locs cells slots lsA Q C hR hS hSc hl kk => lv_aloadN C.1 C.2.1 hd (q_lk_at hl hk) (kk lsA hl)) E
theorem q_x_aload_nN {sc : Option (Nat × (Nat → Int32))} {i pc : Nat} {ls : List (Nat × Value)} {st : List Value} {h h2 : q_H} {r : Option Value} {k : Fin 4}  (hk : q_lk ls k.val = some (.null)) (hd : decode (q_cB i) pc = .ok (.aload_n k, 1)) (E : q_Ex sc i (pc + 1) ls (.null :: st) h r h2) : q_Ex sc i pc ls st h r h2 := q_go0 (fun p l e R s m args below meth c D b base cA H locs cells slots lsA Q C hR hS hSc hl kk => lv_aload_nN C.1 C.2.1 hd rfl (q_lk_at hl hk) (kk lsA hl)) E
theorem q_x_istore {sc : Option (Nat × (Nat → Int32))} {i pc : Nat} {ls : List (Nat × Value)} {st : List Value} {h h2 : q_H} {r : Option Value} {k : Nat} {x : Int32} (hn : k < q_mL i) (hd : decode (q_cB i) pc = .ok (.istore k, 2)) (E : q_Ex sc i (pc + 2) (q_st1 k (.int x) ls) st h r h2) : q_Ex sc i pc ls (.int x :: st) h r h2 := q_go0 (fun p l e R s m args below meth c D b base cA H locs cells slots lsA Q C hR hS hSc hl kk => lv_istore C.1 C.2.1 hd hl hn (q_st1_map _ k (.int x) ls) kk) E
theorem q_x_istore_n {sc : Option (Nat × (Nat → Int32))} {i pc : Nat} {ls : List (Nat × Value)} {st : List Value} {h h2 : q_H} {r : Option Value} {k : Fin 4} {x : Int32} (hn : k.val < q_mL i) (hd : decode (q_cB i) pc = .ok (.istore_n k, 1)) (E : q_Ex sc i (pc + 1) (q_st1 k.val (.int x) ls) st h r h2) : q_Ex sc i pc ls (.int x :: st) h r h2 := q_go0 (fun p l e R s m args below meth c D b base cA H locs cells slots lsA Q C hR hS hSc hl kk => lv_istore_n C.1 C.2.1 hd rfl hl hn (q_st1_map _ k.val (.int x) ls) kk) E
theorem q_x_lstore {sc : Option (Nat × (Nat → Int32))} {i pc : Nat} {ls : List (Nat × Value)} {st : List Value} {h h2 : q_H} {r : Option Value} {k : Nat} {x : Int64} (hn : k + 1 < q_mL i) (hd : decode (q_cB i) pc = .ok (.lstore k, 2)) (E : q_Ex sc i (pc + 2) (q_st2 k (.long x) ls) st h r h2) : q_Ex sc i pc ls (.long x :: st) h r h2 := q_go0 (fun p l e R s m args below meth c D b base cA H locs cells slots lsA Q C hR hS hSc hl kk => lv_lstore C.1 C.2.1 hd hl hn (q_st2_map _ k (.long x) ls) kk) E
theorem q_x_lstore_n {sc : Option (Nat × (Nat → Int32))} {i pc : Nat} {ls : List (Nat × Value)} {st : List Value} {h h2 : q_H} {r : Option Value} {k : Fin 4} {x : Int64} (hn : k.val + 1 < q_mL i) (hd : decode (q_cB i) pc = .ok (.lstore_n k, 1)) (E : q_Ex sc i (pc + 1) (q_st2 k.val (.long x) ls) st h r h2) : q_Ex sc i pc ls (.long x :: st) h r h2 := q_go0 (fun p l e R s m args below meth c D b base cA H locs cells slots lsA Q C hR hS hSc hl kk => lv_lstore_n C.1 C.2.1 hd rfl hl hn (q_st2_map _ k.val (.long x) ls) kk) E
theorem q_x_astore {sc : Option (Nat × (Nat → Int32))} {i pc : Nat} {ls : List (Nat × Value)} {st : List Value} {h h2 : q_H} {r : Option Value} {k : Nat} {x : Nat} (hn : k < q_mL i) (hd : decode (q_cB i) pc = .ok (.astore k, 2)) (E : q_Ex sc i (pc + 2) (q_st1 k (.ref x) ls) st h r h2) : q_Ex sc i pc ls (.ref x :: st) h r h2 := q_go0 (fun p l e R s m args below meth c D b base cA H locs cells slots lsA Q C hR hS hSc hl kk => lv_astore C.1 C.2.1 hd hl hn (q_st1_map _ k (.ref x) ls) kk) E
theorem q_x_astore_n {sc : Option (Nat × (Nat → Int32))} {i pc : Nat} {ls : List (Nat × Value)} {st : List Value} {h h2 : q_H} {r : Option Value} {k : Fin 4} {x : Nat} (hn : k.val < q_mL i) (hd : decode (q_cB i) pc = .ok (.astore_n k, 1)) (E : q_Ex sc i (pc + 1) (q_st1 k.val (.ref x) ls) st h r h2) : q_Ex sc i pc ls (.ref x :: st) h r h2 := q_go0 (fun p l e R s m args below meth c D b base cA H locs cells slots lsA Q C hR hS hSc hl kk => lv_astore_n C.1 C.2.1 hd rfl hl hn (q_st1_map _ k.val (.ref x) ls) kk) E
theorem q_x_astoreN {sc : Option (Nat × (Nat → Int32))} {i pc : Nat} {ls : List (Nat × Value)} {st : List Value} {h h2 : q_H} {r : Option Value} {k : Nat}  (hn : k < q_mL i) (hd : decode (q_cB i) pc = .ok (.astore k, 2)) (E : q_Ex sc i (pc + 2) (q_st1 k (.null) ls) st h r h2) : q_Ex sc i pc ls (.null :: st) h r h2 := q_go0 (fun p l e R s m args below meth c D b base cA H locs cells slots lsA Q C hR hS hSc hl kk => lv_astoreN C.1 C.2.1 hd hl hn (q_st1_map _ k (.null) ls) kk) E
theorem q_x_astore_nN {sc : Option (Nat × (Nat → Int32))} {i pc : Nat} {ls : List (Nat × Value)} {st : List Value} {h h2 : q_H} {r : Option Value} {k : Fin 4}  (hn : k.val < q_mL i) (hd : decode (q_cB i) pc = .ok (.astore_n k, 1)) (E : q_Ex sc i (pc + 1) (q_st1 k.val (.null) ls) st h r h2) : q_Ex sc i pc ls (.null :: st) h r h2 := q_go0 (fun p l e R s m args below meth c D b base cA H locs cells slots lsA Q C hR hS hSc hl kk => lv_astore_nN C.1 C.2.1 hd rfl hl hn (q_st1_map _ k.val (.null) ls) kk) E
theorem q_lk_pos {ad : Nat → Nat} {ls : List (Nat × Value)} {x : Nat} {v : Value} (h : q_lk ls x = some v) : ∃ n : Nat, (ls.map (q_tl ad))[n]? = some (x, q_tv ad v) := by
  unfold q_lk at h
  cases hf : ls.find? (fun q => q.1 == x) with
  | none => rw [hf] at h; cases h
  | some q =>
    rw [hf] at h
    cases h
    have h1 := List.find?_some hf
    simp only [beq_iff_eq] at h1
    have h2 : q_tl ad q ∈ ls.map (q_tl ad) := List.mem_map_of_mem (List.mem_of_find?_eq_some hf)
    obtain ⟨n, hn⟩ := List.getElem?_of_mem h2
    exact ⟨n, by rw [hn, ← h1]; rfl⟩
theorem q_x_iinc {sc : Option (Nat × (Nat → Int32))} {i pc : Nat} {ls : List (Nat × Value)} {st : List Value} {h h2 : q_H} {r : Option Value} {k : Nat} {n : Int} {x y : Int32} (hk : q_lk ls k = some (.int x)) (hv : Int32.ofInt n = y) (hn : k < q_mL i) (hd : decode (q_cB i) pc = .ok (.iinc k n, 3)) (E : q_Ex sc i (pc + 3) (q_st1 k (.int (x + y)) ls) st h r h2) : q_Ex sc i pc ls st h r h2 := by
  refine q_go0 (fun p l e R s m args below meth c D b base cA H locs cells slots lsA Q C hR hS hSc hl kk => ?_) E
  obtain ⟨j, hj⟩ := q_lk_pos (ad := q_ad b base) hk
  exact lv_iinc C.1 C.2.1 hd hl hj (by rw [hv]) hn (q_st1_map _ k (.int (x + y)) ls) kk
theorem q_en_obj {ad cA : Nat → Nat} {h : q_H} {n ci : Nat} (hk : q_kd h n = some (.inl ci)) : q_en ad cA h n = (ad n, .inr (ci, (List.range (q_nf ci)).map (q_fv ad h ci n))) := by simp [q_en, hk]
theorem q_en_i {ad cA : Nat → Nat} {h : q_H} {n N : Nat} (hk : q_kd h n = some (.inr (0, N))) : q_en ad cA h n = (ad n, .inl (cA n, N, .inl (h.2.1 n))) := by simp [q_en, hk]
theorem q_en_l {ad cA : Nat → Nat} {h : q_H} {n N : Nat} (hk : q_kd h n = some (.inr (1, N))) : q_en ad cA h n = (ad n, .inl (cA n, N, .inr (.inl (h.2.2.1 n)))) := by simp [q_en, hk]
theorem q_en_q {ad cA : Nat → Nat} {h : q_H} {n N : Nat} (hk : q_kd h n = some (.inr (2, N))) : q_en ad cA h n = (ad n, .inl (cA n, N, .inr (.inr (.inr (.inr (fun j => (h.2.2.2 n j).map ad)))))) := by simp [q_en, hk]
theorem q_en_ne {ad cA : Nat → Nat} {h h2 : q_H} {m : Nat} (e0 : h2.1 = h.1) (e1 : h2.2.1 m = h.2.1 m) (e2 : h2.2.2.1 m = h.2.2.1 m) (e3 : h2.2.2.2 m = h.2.2.2 m) : q_en ad cA h2 m = q_en ad cA h m := by
  have ek : q_kd h2 m = q_kd h m := by cases m <;> simp [q_kd, e0]
  have ef : ∀ ci, q_fv ad h2 ci m = q_fv ad h ci m := fun ci => funext fun k => by simp only [q_fv, e1, e2, e3]
  simp only [q_en, ek, e1, e2, e3, ef]
theorem q_u2_ne {α : Type} {f : Nat → Nat → α} {o k m : Nat} {v : α} (h : m ≠ o) : q_u2 f o k v m = f m := by
  funext c
  simp [q_u2, h]
theorem q_u2_at {α : Type} {f : Nat → Nat → α} {o k : Nat} {v : α} (j : Nat) : q_u2 f o k v o j = if j = k then v else f o j := by simp [q_u2]
theorem q_kd_pos {h : q_H} {n : Nat} {x : q_Kd} (hk : q_kd h n = some x) : n ≠ 0 := fun e => by subst e; cases hk
theorem q_x_get {sc : Option (Nat × (Nat → Int32))} {i pc : Nat} {ls : List (Nat × Value)} {st : List Value} {h h2 : q_H} {r : Option Value} {n idx ci k : Nat} (hf : q_fd (q_mC i) idx ci k = true) (hk : q_kd h n = some (.inl ci)) (hd : decode (q_cB i) pc = .ok (.getfield idx, 3)) (E : q_Ex sc i (pc + 3) ls (q_av h ci n k :: st) h r h2) : q_Ex sc i pc ls (.ref n :: st) h r h2 := by
  obtain ⟨hlk, hci, hkn⟩ := q_fd_at hf
  obtain ⟨Cn, T, N, f1, f2, f3, f4, f5, f6, f7⟩ := q_cf ci hci
  refine q_go0 (fun p l e R s m args below meth c D b base cA H locs cells slots lsA Q C hR hS hSc hl kk => ?_) E
  have he := q_ws_get (ad := q_ad b base) (cA := cA) hk
  rw [q_en_obj hk] at he
  subst f4
  subst f2
  refine va_get (D := D) (cl := q_cl) (tys := []) (v := q_fv (q_ad b base) h ci n k) C.1 C.2.1 C.2.2.2.2.2.1 f5 C.2.2.2.2.1 hR.2.2.1 hR.1 (n - 1) he f1 k hkn (C.2.2.2.2.2.1 _ hlk) (fun _ h9 => h9) ?_ hd ?_
  · simp [hkn]
  · have h9 := kk lsA hl
    rw [List.map_cons, q_tv_av] at h9
    exact h9
theorem q_fts_at {ci k : Nat} (hci : ci < 10) (hk : k < q_nf ci) : q_fts ci k = true := List.all_eq_true.mp (List.all_eq_true.mp q_fts_ok ci (List.mem_range.mpr hci)) k (List.mem_range.mpr hk)
theorem q_fit1 {ci k : Nat} (hci : ci < 10) (hk : k < q_nf ci) (h1 : q_fk ci k = 1) (x : Int64) : narrow (q_ty ci k) (.long x) = .long x ∧ fits (q_ty ci k) (.long x) = true := by
  have h := q_fts_at hci hk
  unfold q_fts at h
  rw [h1] at h
  cases ht : q_ty ci k <;> rw [ht] at h <;> first | exact ⟨rfl, rfl⟩ | cases h
theorem q_fit2 {ci k : Nat} (hci : ci < 10) (hk : k < q_nf ci) (h1 : q_fk ci k = 2) (x : Nat) : narrow (q_ty ci k) (.ref x) = .ref x ∧ fits (q_ty ci k) (.ref x) = true := by
  have h := q_fts_at hci hk
  unfold q_fts at h
  rw [h1] at h
  cases ht : q_ty ci k <;> rw [ht] at h <;> first | exact ⟨rfl, rfl⟩ | cases h
theorem q_ws_putI {ad cA : Nat → Nat} {h : q_H} {n ci k : Nat} {x : Int32} (hk : q_kd h n = some (.inl ci)) (hf : q_fk ci k = 0) (hkn : k < q_nf ci) : (q_ws ad cA h).set (n - 1) (ad n, .inr (ci, ((List.range (q_nf ci)).map (q_fv ad h ci n)).set k (.int x))) = q_ws ad cA (h.1, q_u2 h.2.1 n k x, h.2.2.1, h.2.2.2) := by
  rw [← q_ws_set (h := h) (h2 := (h.1, q_u2 h.2.1 n k x, h.2.2.1, h.2.2.2)) (n := n) rfl (fun m hm => q_en_ne rfl (q_u2_ne hm) rfl rfl) (q_kd_pos hk)]
  congr 1
  rw [q_en_obj (h := (h.1, q_u2 h.2.1 n k x, h.2.2.1, h.2.2.2)) (ci := ci) (n := n) (by cases n with | zero => cases hk | succ n => exact hk)]
  congr 2
  apply congrArg
  apply List.ext_getElem?
  intro j
  rw [List.getElem?_set]
  by_cases e : k = j
  · subst e
    simp [hkn, q_fv, hf, q_u2, va_rf]
  · rw [if_neg e]
    simp only [List.getElem?_map]
    by_cases hj : j < q_nf ci
    · rw [List.getElem?_range hj]
      simp [q_fv, q_u2, Ne.symm e]
    · simp [hj]
theorem q_x_putI {sc : Option (Nat × (Nat → Int32))} {i pc : Nat} {ls : List (Nat × Value)} {st : List Value} {h h2 : q_H} {r : Option Value} {n idx ci k : Nat} {x : Int32} (hf : q_fd (q_mC i) idx ci k = true) (hfk : q_fk ci k = 0) (hfin : (q_tt ci k).2.2.2 = false) (hk : q_kd h n = some (.inl ci)) (hnw : narrow (q_ty ci k) (.int x) = .int x ∧ fits (q_ty ci k) (.int x) = true) (hd : decode (q_cB i) pc = .ok (.putfield idx, 3)) (E : q_Ex sc i (pc + 3) ls st (h.1, q_u2 h.2.1 n k x, h.2.2.1, h.2.2.2) r h2) : q_Ex sc i pc ls (.int x :: .ref n :: st) h r h2 := by
  obtain ⟨hlk, hci, hkn⟩ := q_fd_at hf
  obtain ⟨Cn, T, N, f1, f2, f3, f4, f5, f6, f7⟩ := q_cf ci hci
  refine q_go1 (h1 := (h.1, q_u2 h.2.1 n k x, h.2.2.1, h.2.2.2)) rfl (fun p l e R s m args below meth c D b base cA H locs cells slots lsA Q C hR hS hl kk => ?_) E
  have he := q_ws_get (ad := q_ad b base) (cA := cA) hk
  rw [q_en_obj hk] at he
  subst f4
  subst f2
  refine va_put (D := D) (cl := q_cl) (tys := []) (ty := q_ty ci k) (v := .int x) C.1 C.2.1 C.2.2.2.2.2.1 f5 (q_ty ci) f6 f7 C.2.2.2.2.1 hR.2.2.1 hR.1 (q_D b base cA h) hS (n - 1) he f1 k hkn (C.2.2.2.2.2.1 _ hlk) (fun _ h9 => h9) hfin (f6 k hkn) hnw.1 hnw.2 (by simp [hkn]) hd (fun H1 locs1 hP1 hD1 hS1 => ?_)
  rw [q_ws_putI hk hfk hkn] at hP1
  exact kk H1 locs1 hP1 hS1
theorem q_x_putIF {sc : Option (Nat × (Nat → Int32))} {i pc : Nat} {ls : List (Nat × Value)} {st : List Value} {h h2 : q_H} {r : Option Value} {n idx ci k : Nat} {x : Int32} (hf : q_fd (q_mC i) idx ci k = true) (hfk : q_fk ci k = 0) (hfin : (q_tt ci k).2.2.2 = true) (hin : (q_mY i).name = "<init>") (hdc : (q_tt ci k).1 = q_cn (q_mC i)) (hk : q_kd h n = some (.inl ci)) (hnw : narrow (q_ty ci k) (.int x) = .int x ∧ fits (q_ty ci k) (.int x) = true) (hd : decode (q_cB i) pc = .ok (.putfield idx, 3)) (E : q_Ex sc i (pc + 3) ls st (h.1, q_u2 h.2.1 n k x, h.2.2.1, h.2.2.2) r h2) : q_Ex sc i pc ls (.int x :: .ref n :: st) h r h2 := by
  obtain ⟨hlk, hci, hkn⟩ := q_fd_at hf
  obtain ⟨Cn, T, N, f1, f2, f3, f4, f5, f6, f7⟩ := q_cf ci hci
  refine q_go1 (h1 := (h.1, q_u2 h.2.1 n k x, h.2.2.1, h.2.2.2)) rfl (fun p l e R s m args below meth c D b base cA H locs cells slots lsA Q C hR hS hl kk => ?_) E
  have he := q_ws_get (ad := q_ad b base) (cA := cA) hk
  rw [q_en_obj hk] at he
  subst f4
  subst f2
  refine va_putF (D := D) (cl := q_cl) (tys := []) (ty := q_ty ci k) (v := .int x) C.1 C.2.1 C.2.2.2.2.2.1 f5 (q_ty ci) f6 f7 C.2.2.2.2.1 hR.2.2.1 hR.1 (q_D b base cA h) hS (n - 1) he f1 k hkn (C.2.2.2.2.2.1 _ hlk) (fun _ h9 => h9) hfin (C.2.2.2.2.2.2.2.1 hin) hdc (f6 k hkn) hnw.1 hnw.2 (by simp [hkn]) hd (fun H1 locs1 hP1 hD1 hS1 => ?_)
  rw [q_ws_putI hk hfk hkn] at hP1
  exact kk H1 locs1 hP1 hS1
theorem q_ws_putL {ad cA : Nat → Nat} {h : q_H} {n ci k : Nat} {x : Int64} (hk : q_kd h n = some (.inl ci)) (hf : q_fk ci k = 1) (hkn : k < q_nf ci) : (q_ws ad cA h).set (n - 1) (ad n, .inr (ci, ((List.range (q_nf ci)).map (q_fv ad h ci n)).set k (.long x))) = q_ws ad cA (h.1, h.2.1, q_u2 h.2.2.1 n k x, h.2.2.2) := by
  rw [← q_ws_set (h := h) (h2 := (h.1, h.2.1, q_u2 h.2.2.1 n k x, h.2.2.2)) (n := n) rfl (fun m hm => q_en_ne rfl rfl (q_u2_ne hm) rfl) (q_kd_pos hk)]
  congr 1
  rw [q_en_obj (h := (h.1, h.2.1, q_u2 h.2.2.1 n k x, h.2.2.2)) (ci := ci) (n := n) (by cases n with | zero => cases hk | succ n => exact hk)]
  congr 2
  apply congrArg
  apply List.ext_getElem?
  intro j
  rw [List.getElem?_set]
  by_cases e : k = j
  · subst e
    simp [hkn, q_fv, hf, q_u2, va_rf]
  · rw [if_neg e]
    simp only [List.getElem?_map]
    by_cases hj : j < q_nf ci
    · rw [List.getElem?_range hj]
      simp [q_fv, q_u2, Ne.symm e]
    · simp [hj]
theorem q_x_putL {sc : Option (Nat × (Nat → Int32))} {i pc : Nat} {ls : List (Nat × Value)} {st : List Value} {h h2 : q_H} {r : Option Value} {n idx ci k : Nat} {x : Int64} (hf : q_fd (q_mC i) idx ci k = true) (hfk : q_fk ci k = 1) (hfin : (q_tt ci k).2.2.2 = false) (hk : q_kd h n = some (.inl ci)) (hd : decode (q_cB i) pc = .ok (.putfield idx, 3)) (E : q_Ex sc i (pc + 3) ls st (h.1, h.2.1, q_u2 h.2.2.1 n k x, h.2.2.2) r h2) : q_Ex sc i pc ls (.long x :: .ref n :: st) h r h2 := by
  obtain ⟨hlk, hci, hkn⟩ := q_fd_at hf
  obtain ⟨Cn, T, N, f1, f2, f3, f4, f5, f6, f7⟩ := q_cf ci hci
  refine q_go1 (h1 := (h.1, h.2.1, q_u2 h.2.2.1 n k x, h.2.2.2)) rfl (fun p l e R s m args below meth c D b base cA H locs cells slots lsA Q C hR hS hl kk => ?_) E
  have he := q_ws_get (ad := q_ad b base) (cA := cA) hk
  rw [q_en_obj hk] at he
  subst f4
  subst f2
  refine va_put (D := D) (cl := q_cl) (tys := []) (ty := q_ty ci k) (v := .long x) C.1 C.2.1 C.2.2.2.2.2.1 f5 (q_ty ci) f6 f7 C.2.2.2.2.1 hR.2.2.1 hR.1 (q_D b base cA h) hS (n - 1) he f1 k hkn (C.2.2.2.2.2.1 _ hlk) (fun _ h9 => h9) hfin (f6 k hkn) (q_fit1 hci hkn hfk x).1 (q_fit1 hci hkn hfk x).2 (by simp [hkn]) hd (fun H1 locs1 hP1 hD1 hS1 => ?_)
  rw [q_ws_putL hk hfk hkn] at hP1
  exact kk H1 locs1 hP1 hS1
theorem q_x_putLF {sc : Option (Nat × (Nat → Int32))} {i pc : Nat} {ls : List (Nat × Value)} {st : List Value} {h h2 : q_H} {r : Option Value} {n idx ci k : Nat} {x : Int64} (hf : q_fd (q_mC i) idx ci k = true) (hfk : q_fk ci k = 1) (hfin : (q_tt ci k).2.2.2 = true) (hin : (q_mY i).name = "<init>") (hdc : (q_tt ci k).1 = q_cn (q_mC i)) (hk : q_kd h n = some (.inl ci)) (hd : decode (q_cB i) pc = .ok (.putfield idx, 3)) (E : q_Ex sc i (pc + 3) ls st (h.1, h.2.1, q_u2 h.2.2.1 n k x, h.2.2.2) r h2) : q_Ex sc i pc ls (.long x :: .ref n :: st) h r h2 := by
  obtain ⟨hlk, hci, hkn⟩ := q_fd_at hf
  obtain ⟨Cn, T, N, f1, f2, f3, f4, f5, f6, f7⟩ := q_cf ci hci
  refine q_go1 (h1 := (h.1, h.2.1, q_u2 h.2.2.1 n k x, h.2.2.2)) rfl (fun p l e R s m args below meth c D b base cA H locs cells slots lsA Q C hR hS hl kk => ?_) E
  have he := q_ws_get (ad := q_ad b base) (cA := cA) hk
  rw [q_en_obj hk] at he
  subst f4
  subst f2
  refine va_putF (D := D) (cl := q_cl) (tys := []) (ty := q_ty ci k) (v := .long x) C.1 C.2.1 C.2.2.2.2.2.1 f5 (q_ty ci) f6 f7 C.2.2.2.2.1 hR.2.2.1 hR.1 (q_D b base cA h) hS (n - 1) he f1 k hkn (C.2.2.2.2.2.1 _ hlk) (fun _ h9 => h9) hfin (C.2.2.2.2.2.2.2.1 hin) hdc (f6 k hkn) (q_fit1 hci hkn hfk x).1 (q_fit1 hci hkn hfk x).2 (by simp [hkn]) hd (fun H1 locs1 hP1 hD1 hS1 => ?_)
  rw [q_ws_putL hk hfk hkn] at hP1
  exact kk H1 locs1 hP1 hS1
theorem q_ws_putR {ad cA : Nat → Nat} {h : q_H} {n ci k : Nat} {x : Nat} (hk : q_kd h n = some (.inl ci)) (hf : q_fk ci k = 2) (hkn : k < q_nf ci) : (q_ws ad cA h).set (n - 1) (ad n, .inr (ci, ((List.range (q_nf ci)).map (q_fv ad h ci n)).set k (.ref (ad x)))) = q_ws ad cA (h.1, h.2.1, h.2.2.1, q_u2 h.2.2.2 n k (some x)) := by
  rw [← q_ws_set (h := h) (h2 := (h.1, h.2.1, h.2.2.1, q_u2 h.2.2.2 n k (some x))) (n := n) rfl (fun m hm => q_en_ne rfl rfl rfl (q_u2_ne hm)) (q_kd_pos hk)]
  congr 1
  rw [q_en_obj (h := (h.1, h.2.1, h.2.2.1, q_u2 h.2.2.2 n k (some x))) (ci := ci) (n := n) (by cases n with | zero => cases hk | succ n => exact hk)]
  congr 2
  apply congrArg
  apply List.ext_getElem?
  intro j
  rw [List.getElem?_set]
  by_cases e : k = j
  · subst e
    simp [hkn, q_fv, hf, q_u2, va_rf]
  · rw [if_neg e]
    simp only [List.getElem?_map]
    by_cases hj : j < q_nf ci
    · rw [List.getElem?_range hj]
      simp [q_fv, q_u2, Ne.symm e]
    · simp [hj]
theorem q_x_putR {sc : Option (Nat × (Nat → Int32))} {i pc : Nat} {ls : List (Nat × Value)} {st : List Value} {h h2 : q_H} {r : Option Value} {n idx ci k : Nat} {x : Nat} (hf : q_fd (q_mC i) idx ci k = true) (hfk : q_fk ci k = 2) (hfin : (q_tt ci k).2.2.2 = false) (hk : q_kd h n = some (.inl ci)) (hd : decode (q_cB i) pc = .ok (.putfield idx, 3)) (E : q_Ex sc i (pc + 3) ls st (h.1, h.2.1, h.2.2.1, q_u2 h.2.2.2 n k (some x)) r h2) : q_Ex sc i pc ls (.ref x :: .ref n :: st) h r h2 := by
  obtain ⟨hlk, hci, hkn⟩ := q_fd_at hf
  obtain ⟨Cn, T, N, f1, f2, f3, f4, f5, f6, f7⟩ := q_cf ci hci
  refine q_go1 (h1 := (h.1, h.2.1, h.2.2.1, q_u2 h.2.2.2 n k (some x))) rfl (fun p l e R s m args below meth c D b base cA H locs cells slots lsA Q C hR hS hl kk => ?_) E
  have he := q_ws_get (ad := q_ad b base) (cA := cA) hk
  rw [q_en_obj hk] at he
  subst f4
  subst f2
  refine va_put (D := D) (cl := q_cl) (tys := []) (ty := q_ty ci k) (v := .ref (q_ad b base x)) C.1 C.2.1 C.2.2.2.2.2.1 f5 (q_ty ci) f6 f7 C.2.2.2.2.1 hR.2.2.1 hR.1 (q_D b base cA h) hS (n - 1) he f1 k hkn (C.2.2.2.2.2.1 _ hlk) (fun _ h9 => h9) hfin (f6 k hkn) (q_fit2 hci hkn hfk _).1 (q_fit2 hci hkn hfk _).2 (by simp [hkn]) hd (fun H1 locs1 hP1 hD1 hS1 => ?_)
  rw [q_ws_putR hk hfk hkn] at hP1
  exact kk H1 locs1 hP1 hS1
theorem q_x_putRF {sc : Option (Nat × (Nat → Int32))} {i pc : Nat} {ls : List (Nat × Value)} {st : List Value} {h h2 : q_H} {r : Option Value} {n idx ci k : Nat} {x : Nat} (hf : q_fd (q_mC i) idx ci k = true) (hfk : q_fk ci k = 2) (hfin : (q_tt ci k).2.2.2 = true) (hin : (q_mY i).name = "<init>") (hdc : (q_tt ci k).1 = q_cn (q_mC i)) (hk : q_kd h n = some (.inl ci)) (hd : decode (q_cB i) pc = .ok (.putfield idx, 3)) (E : q_Ex sc i (pc + 3) ls st (h.1, h.2.1, h.2.2.1, q_u2 h.2.2.2 n k (some x)) r h2) : q_Ex sc i pc ls (.ref x :: .ref n :: st) h r h2 := by
  obtain ⟨hlk, hci, hkn⟩ := q_fd_at hf
  obtain ⟨Cn, T, N, f1, f2, f3, f4, f5, f6, f7⟩ := q_cf ci hci
  refine q_go1 (h1 := (h.1, h.2.1, h.2.2.1, q_u2 h.2.2.2 n k (some x))) rfl (fun p l e R s m args below meth c D b base cA H locs cells slots lsA Q C hR hS hl kk => ?_) E
  have he := q_ws_get (ad := q_ad b base) (cA := cA) hk
  rw [q_en_obj hk] at he
  subst f4
  subst f2
  refine va_putF (D := D) (cl := q_cl) (tys := []) (ty := q_ty ci k) (v := .ref (q_ad b base x)) C.1 C.2.1 C.2.2.2.2.2.1 f5 (q_ty ci) f6 f7 C.2.2.2.2.1 hR.2.2.1 hR.1 (q_D b base cA h) hS (n - 1) he f1 k hkn (C.2.2.2.2.2.1 _ hlk) (fun _ h9 => h9) hfin (C.2.2.2.2.2.2.2.1 hin) hdc (f6 k hkn) (q_fit2 hci hkn hfk _).1 (q_fit2 hci hkn hfk _).2 (by simp [hkn]) hd (fun H1 locs1 hP1 hD1 hS1 => ?_)
  rw [q_ws_putR hk hfk hkn] at hP1
  exact kk H1 locs1 hP1 hS1
theorem q_x_iald {sc : Option (Nat × (Nat → Int32))} {i pc : Nat} {ls : List (Nat × Value)} {st : List Value} {h h2 : q_H} {r : Option Value} {n N : Nat} {a : Int32} (hk : q_kd h n = some (.inr (0, N))) (hin : vp_in a N) (hd : decode (q_cB i) pc = .ok (.iaload, 1)) (E : q_Ex sc i (pc + 1) ls (.int (h.2.1 n a.toNatClampNeg) :: st) h r h2) : q_Ex sc i pc ls (.int a :: .ref n :: st) h r h2 := by
  refine q_go0 (fun p l e R s m args below meth c D b base cA H locs cells slots lsA Q C hR hS hSc hl kk => ?_) E
  have he := q_ws_get (ad := q_ad b base) (cA := cA) hk
  rw [q_en_i hk] at he
  exact va_iald (D := D) (cl := q_cl) (tys := [(cA n, .int)]) C.1 C.2.1 (hR.2.2.2.1 n 0 N hk) hR.1 (n - 1) 0 he rfl hin hd (kk lsA hl)
theorem q_x_lald {sc : Option (Nat × (Nat → Int32))} {i pc : Nat} {ls : List (Nat × Value)} {st : List Value} {h h2 : q_H} {r : Option Value} {n N : Nat} {a : Int32} (hk : q_kd h n = some (.inr (1, N))) (hin : vp_in a N) (hd : decode (q_cB i) pc = .ok (.laload, 1)) (E : q_Ex sc i (pc + 1) ls (.long (h.2.2.1 n a.toNatClampNeg) :: st) h r h2) : q_Ex sc i pc ls (.int a :: .ref n :: st) h r h2 := by
  refine q_go0 (fun p l e R s m args below meth c D b base cA H locs cells slots lsA Q C hR hS hSc hl kk => ?_) E
  have he := q_ws_get (ad := q_ad b base) (cA := cA) hk
  rw [q_en_l hk] at he
  exact va_lald (D := D) (cl := q_cl) (tys := [(cA n, .long)]) C.1 C.2.1 (hR.2.2.2.1 n 1 N hk) hR.1 (n - 1) 0 he rfl hin hd (kk lsA hl)
theorem q_x_aald {sc : Option (Nat × (Nat → Int32))} {i pc : Nat} {ls : List (Nat × Value)} {st : List Value} {h h2 : q_H} {r : Option Value} {n N : Nat} {a : Int32} (hk : q_kd h n = some (.inr (2, N))) (hin : vp_in a N) (hd : decode (q_cB i) pc = .ok (.aaload, 1)) (E : q_Ex sc i (pc + 1) ls (va_rf (h.2.2.2 n a.toNatClampNeg) :: st) h r h2) : q_Ex sc i pc ls (.int a :: .ref n :: st) h r h2 := by
  refine q_go0 (fun p l e R s m args below meth c D b base cA H locs cells slots lsA Q C hR hS hSc hl kk => ?_) E
  have he := q_ws_get (ad := q_ad b base) (cA := cA) hk
  rw [q_en_q hk] at he
  refine va_aldq (D := D) (cl := q_cl) (tys := [(cA n, .object "RootForms$Form")]) C.1 C.2.1 (hR.2.2.2.1 n 2 N hk) hR.1 (n - 1) 0 he rfl hin hd ?_
  have h9 := kk lsA hl
  rw [List.map_cons, q_tv_rf] at h9
  exact h9
theorem q_x_iast {sc : Option (Nat × (Nat → Int32))} {i pc : Nat} {ls : List (Nat × Value)} {st : List Value} {h h2 : q_H} {r : Option Value} {n N : Nat} {a : Int32} {x : Int32} (hk : q_kd h n = some (.inr (0, N))) (hin : vp_in a N) (hd : decode (q_cB i) pc = .ok (.iastore, 1)) (E : q_Ex sc i (pc + 1) ls st (h.1, q_u2 h.2.1 n a.toNatClampNeg x, h.2.2.1, h.2.2.2) r h2) : q_Ex sc i pc ls (.int x :: .int a :: .ref n :: st) h r h2 := by
  refine q_go1 (h1 := (h.1, q_u2 h.2.1 n a.toNatClampNeg x, h.2.2.1, h.2.2.2)) rfl (fun p l e R s m args below meth c D b base cA H locs cells slots lsA Q C hR hS hl kk => ?_) E
  have he := q_ws_get (ad := q_ad b base) (cA := cA) hk
  rw [q_en_i hk] at he
  skip
  refine va_iast (D := D) (cl := q_cl) (tys := [(cA n, .int)]) C.1 C.2.1 (hR.2.2.2.1 n 0 N hk) hR.1 (q_D b base cA h) hS (n - 1) 0 he rfl hin hd (fun H1 locs1 hP1 hD1 hS1 => ?_)
  refine kk H1 locs1 ?_ hS1
  have hq : (q_ad b base n, Sum.inl (cA n, N, .inl (upd (h.2.1 n) a.toNatClampNeg x))) = q_en (q_ad b base) cA (h.1, q_u2 h.2.1 n a.toNatClampNeg x, h.2.2.1, h.2.2.2) n := by
    rw [q_en_i (N := N) (by cases n with | zero => cases hk | succ n => exact hk)]
    congr 4
    apply congrArg; funext j; simp [q_u2, upd]
  rw [hq, q_ws_set (h := h) (h2 := (h.1, q_u2 h.2.1 n a.toNatClampNeg x, h.2.2.1, h.2.2.2)) rfl (fun m hm => q_en_ne rfl (q_u2_ne hm) rfl rfl) (q_kd_pos hk)] at hP1
  exact hP1
theorem q_x_last {sc : Option (Nat × (Nat → Int32))} {i pc : Nat} {ls : List (Nat × Value)} {st : List Value} {h h2 : q_H} {r : Option Value} {n N : Nat} {a : Int32} {x : Int64} (hk : q_kd h n = some (.inr (1, N))) (hin : vp_in a N) (hd : decode (q_cB i) pc = .ok (.lastore, 1)) (E : q_Ex sc i (pc + 1) ls st (h.1, h.2.1, q_u2 h.2.2.1 n a.toNatClampNeg x, h.2.2.2) r h2) : q_Ex sc i pc ls (.long x :: .int a :: .ref n :: st) h r h2 := by
  refine q_go1 (h1 := (h.1, h.2.1, q_u2 h.2.2.1 n a.toNatClampNeg x, h.2.2.2)) rfl (fun p l e R s m args below meth c D b base cA H locs cells slots lsA Q C hR hS hl kk => ?_) E
  have he := q_ws_get (ad := q_ad b base) (cA := cA) hk
  rw [q_en_l hk] at he
  skip
  refine va_last (D := D) (cl := q_cl) (tys := [(cA n, .long)]) C.1 C.2.1 (hR.2.2.2.1 n 1 N hk) hR.1 (q_D b base cA h) hS (n - 1) 0 he rfl hin hd (fun H1 locs1 hP1 hD1 hS1 => ?_)
  refine kk H1 locs1 ?_ hS1
  have hq : (q_ad b base n, Sum.inl (cA n, N, .inr (.inl (vp_updL (h.2.2.1 n) a.toNatClampNeg x)))) = q_en (q_ad b base) cA (h.1, h.2.1, q_u2 h.2.2.1 n a.toNatClampNeg x, h.2.2.2) n := by
    rw [q_en_l (N := N) (by cases n with | zero => cases hk | succ n => exact hk)]
    congr 4
    simp only [Sum.inr.injEq, Sum.inl.injEq]; funext j; simp [q_u2, vp_updL]
  rw [hq, q_ws_set (h := h) (h2 := (h.1, h.2.1, q_u2 h.2.2.1 n a.toNatClampNeg x, h.2.2.2)) rfl (fun m hm => q_en_ne rfl rfl (q_u2_ne hm) rfl) (q_kd_pos hk)] at hP1
  exact hP1
theorem q_x_aast {sc : Option (Nat × (Nat → Int32))} {i pc : Nat} {ls : List (Nat × Value)} {st : List Value} {h h2 : q_H} {r : Option Value} {n N : Nat} {a : Int32} {x : Nat} (hk : q_kd h n = some (.inr (2, N))) (hin : vp_in a N) (hkv : q_kd h x = some (.inl 1)) (hd : decode (q_cB i) pc = .ok (.aastore, 1)) (E : q_Ex sc i (pc + 1) ls st (h.1, h.2.1, h.2.2.1, q_u2 h.2.2.2 n a.toNatClampNeg (some x)) r h2) : q_Ex sc i pc ls (.ref x :: .int a :: .ref n :: st) h r h2 := by
  refine q_go1 (h1 := (h.1, h.2.1, h.2.2.1, q_u2 h.2.2.2 n a.toNatClampNeg (some x))) rfl (fun p l e R s m args below meth c D b base cA H locs cells slots lsA Q C hR hS hl kk => ?_) E
  have he := q_ws_get (ad := q_ad b base) (cA := cA) hk
  rw [q_en_q hk] at he
  have hv := q_ws_get (ad := q_ad b base) (cA := cA) hkv
  rw [q_en_obj hkv] at hv
  refine va_astq (D := D) (cl := q_cl) (tys := [(cA n, .object "RootForms$Form")]) (r := (RX1, TX1, 3)) C.1 C.2.1 (hR.2.2.2.1 n 2 N hk) hR.1 (q_D b base cA h) hS (n - 1) 0 (x - 1) 1 he rfl hv rfl hin hd (fun H1 locs1 hP1 hD1 hS1 => ?_)
  refine kk H1 locs1 ?_ hS1
  have hq : (q_ad b base n, Sum.inl (cA n, N, .inr (.inr (.inr (.inr (va_up (fun j => (h.2.2.2 n j).map (q_ad b base)) a.toNatClampNeg (some (q_ad b base x)))))))) = q_en (q_ad b base) cA (h.1, h.2.1, h.2.2.1, q_u2 h.2.2.2 n a.toNatClampNeg (some x)) n := by
    rw [q_en_q (N := N) (by cases n with | zero => cases hk | succ n => exact hk)]
    congr 4
    simp only [Sum.inr.injEq]; funext j; by_cases e : j = a.toNatClampNeg <;> simp [q_u2, va_up, e]
  rw [hq, q_ws_set (h := h) (h2 := (h.1, h.2.1, h.2.2.1, q_u2 h.2.2.2 n a.toNatClampNeg (some x))) rfl (fun m hm => q_en_ne rfl rfl rfl (q_u2_ne hm)) (q_kd_pos hk)] at hP1
  exact hP1
end
section
/-! branches, the script, ends (written by wip/whole/gen5.py) -/
theorem q_if_eq {sc : Option (Nat × (Nat → Int32))} {i pc : Nat} {ls : List (Nat × Value)} {st : List Value} {h h2 : q_H} {r : Option Value} {x : Int32} {off : Int} {tgt : Nat} (hd : decode (q_cB i) pc = .ok (.ifCond .eq off, 3)) (ht : (pc : Int) + off = (tgt : Int)) (kt : x = 0 → q_Ex sc i tgt ls st h r h2) (kf : ¬ (x = 0) → q_Ex sc i (pc + 3) ls st h r h2) : q_Ex sc i pc ls (.int x :: st) h r h2 := by
  by_cases hx : x = 0
  · exact q_go0 (fun p l e R s m args below meth c D b base cA H locs cells slots lsA Q C hR hS hSc hl kk => lv_if_eq C.1 C.2.1 hd ht (fun _ => kk lsA hl) (fun hn => absurd hx hn)) (kt hx)
  · exact q_go0 (fun p l e R s m args below meth c D b base cA H locs cells slots lsA Q C hR hS hSc hl kk => lv_if_eq C.1 C.2.1 hd ht (fun hn => absurd hn hx) (fun _ => kk lsA hl)) (kf hx)
theorem q_ic_eq {sc : Option (Nat × (Nat → Int32))} {i pc : Nat} {ls : List (Nat × Value)} {st : List Value} {h h2 : q_H} {r : Option Value} {x y : Int32} {off : Int} {tgt : Nat} (hd : decode (q_cB i) pc = .ok (.if_icmp .eq off, 3)) (ht : (pc : Int) + off = (tgt : Int)) (kt : x = y → q_Ex sc i tgt ls st h r h2) (kf : ¬ (x = y) → q_Ex sc i (pc + 3) ls st h r h2) : q_Ex sc i pc ls (.int y :: .int x :: st) h r h2 := by
  by_cases hx : x = y
  · exact q_go0 (fun p l e R s m args below meth c D b base cA H locs cells slots lsA Q C hR hS hSc hl kk => lv_icmp_eq C.1 C.2.1 hd ht (fun _ => kk lsA hl) (fun hn => absurd hx hn)) (kt hx)
  · exact q_go0 (fun p l e R s m args below meth c D b base cA H locs cells slots lsA Q C hR hS hSc hl kk => lv_icmp_eq C.1 C.2.1 hd ht (fun hn => absurd hn hx) (fun _ => kk lsA hl)) (kf hx)
theorem q_if_lt {sc : Option (Nat × (Nat → Int32))} {i pc : Nat} {ls : List (Nat × Value)} {st : List Value} {h h2 : q_H} {r : Option Value} {x : Int32} {off : Int} {tgt : Nat} (hd : decode (q_cB i) pc = .ok (.ifCond .lt off, 3)) (ht : (pc : Int) + off = (tgt : Int)) (kt : x < 0 → q_Ex sc i tgt ls st h r h2) (kf : ¬ (x < 0) → q_Ex sc i (pc + 3) ls st h r h2) : q_Ex sc i pc ls (.int x :: st) h r h2 := by
  by_cases hx : x < 0
  · exact q_go0 (fun p l e R s m args below meth c D b base cA H locs cells slots lsA Q C hR hS hSc hl kk => lv_if_lt C.1 C.2.1 hd ht (fun _ => kk lsA hl) (fun hn => absurd hx hn)) (kt hx)
  · exact q_go0 (fun p l e R s m args below meth c D b base cA H locs cells slots lsA Q C hR hS hSc hl kk => lv_if_lt C.1 C.2.1 hd ht (fun hn => absurd hn hx) (fun _ => kk lsA hl)) (kf hx)
theorem q_ic_lt {sc : Option (Nat × (Nat → Int32))} {i pc : Nat} {ls : List (Nat × Value)} {st : List Value} {h h2 : q_H} {r : Option Value} {x y : Int32} {off : Int} {tgt : Nat} (hd : decode (q_cB i) pc = .ok (.if_icmp .lt off, 3)) (ht : (pc : Int) + off = (tgt : Int)) (kt : x < y → q_Ex sc i tgt ls st h r h2) (kf : ¬ (x < y) → q_Ex sc i (pc + 3) ls st h r h2) : q_Ex sc i pc ls (.int y :: .int x :: st) h r h2 := by
  by_cases hx : x < y
  · exact q_go0 (fun p l e R s m args below meth c D b base cA H locs cells slots lsA Q C hR hS hSc hl kk => lv_icmp_lt C.1 C.2.1 hd ht (fun _ => kk lsA hl) (fun hn => absurd hx hn)) (kt hx)
  · exact q_go0 (fun p l e R s m args below meth c D b base cA H locs cells slots lsA Q C hR hS hSc hl kk => lv_icmp_lt C.1 C.2.1 hd ht (fun hn => absurd hn hx) (fun _ => kk lsA hl)) (kf hx)
theorem q_if_ge {sc : Option (Nat × (Nat → Int32))} {i pc : Nat} {ls : List (Nat × Value)} {st : List Value} {h h2 : q_H} {r : Option Value} {x : Int32} {off : Int} {tgt : Nat} (hd : decode (q_cB i) pc = .ok (.ifCond .ge off, 3)) (ht : (pc : Int) + off = (tgt : Int)) (kt : 0 ≤ x → q_Ex sc i tgt ls st h r h2) (kf : ¬ (0 ≤ x) → q_Ex sc i (pc + 3) ls st h r h2) : q_Ex sc i pc ls (.int x :: st) h r h2 := by
  by_cases hx : 0 ≤ x
  · exact q_go0 (fun p l e R s m args below meth c D b base cA H locs cells slots lsA Q C hR hS hSc hl kk => lv_if_ge C.1 C.2.1 hd ht (fun _ => kk lsA hl) (fun hn => absurd hx hn)) (kt hx)
  · exact q_go0 (fun p l e R s m args below meth c D b base cA H locs cells slots lsA Q C hR hS hSc hl kk => lv_if_ge C.1 C.2.1 hd ht (fun hn => absurd hn hx) (fun _ => kk lsA hl)) (kf hx)
theorem q_ic_ge {sc : Option (Nat × (Nat → Int32))} {i pc : Nat} {ls : List (Nat × Value)} {st : List Value} {h h2 : q_H} {r : Option Value} {x y : Int32} {off : Int} {tgt : Nat} (hd : decode (q_cB i) pc = .ok (.if_icmp .ge off, 3)) (ht : (pc : Int) + off = (tgt : Int)) (kt : y ≤ x → q_Ex sc i tgt ls st h r h2) (kf : ¬ (y ≤ x) → q_Ex sc i (pc + 3) ls st h r h2) : q_Ex sc i pc ls (.int y :: .int x :: st) h r h2 := by
  by_cases hx : y ≤ x
  · exact q_go0 (fun p l e R s m args below meth c D b base cA H locs cells slots lsA Q C hR hS hSc hl kk => lv_icmp_ge C.1 C.2.1 hd ht (fun _ => kk lsA hl) (fun hn => absurd hx hn)) (kt hx)
  · exact q_go0 (fun p l e R s m args below meth c D b base cA H locs cells slots lsA Q C hR hS hSc hl kk => lv_icmp_ge C.1 C.2.1 hd ht (fun hn => absurd hn hx) (fun _ => kk lsA hl)) (kf hx)
theorem q_if_gt {sc : Option (Nat × (Nat → Int32))} {i pc : Nat} {ls : List (Nat × Value)} {st : List Value} {h h2 : q_H} {r : Option Value} {x : Int32} {off : Int} {tgt : Nat} (hd : decode (q_cB i) pc = .ok (.ifCond .gt off, 3)) (ht : (pc : Int) + off = (tgt : Int)) (kt : 0 < x → q_Ex sc i tgt ls st h r h2) (kf : ¬ (0 < x) → q_Ex sc i (pc + 3) ls st h r h2) : q_Ex sc i pc ls (.int x :: st) h r h2 := by
  by_cases hx : 0 < x
  · exact q_go0 (fun p l e R s m args below meth c D b base cA H locs cells slots lsA Q C hR hS hSc hl kk => lv_if_gt C.1 C.2.1 hd ht (fun _ => kk lsA hl) (fun hn => absurd hx hn)) (kt hx)
  · exact q_go0 (fun p l e R s m args below meth c D b base cA H locs cells slots lsA Q C hR hS hSc hl kk => lv_if_gt C.1 C.2.1 hd ht (fun hn => absurd hn hx) (fun _ => kk lsA hl)) (kf hx)
theorem q_ic_gt {sc : Option (Nat × (Nat → Int32))} {i pc : Nat} {ls : List (Nat × Value)} {st : List Value} {h h2 : q_H} {r : Option Value} {x y : Int32} {off : Int} {tgt : Nat} (hd : decode (q_cB i) pc = .ok (.if_icmp .gt off, 3)) (ht : (pc : Int) + off = (tgt : Int)) (kt : y < x → q_Ex sc i tgt ls st h r h2) (kf : ¬ (y < x) → q_Ex sc i (pc + 3) ls st h r h2) : q_Ex sc i pc ls (.int y :: .int x :: st) h r h2 := by
  by_cases hx : y < x
  · exact q_go0 (fun p l e R s m args below meth c D b base cA H locs cells slots lsA Q C hR hS hSc hl kk => lv_icmp_gt C.1 C.2.1 hd ht (fun _ => kk lsA hl) (fun hn => absurd hx hn)) (kt hx)
  · exact q_go0 (fun p l e R s m args below meth c D b base cA H locs cells slots lsA Q C hR hS hSc hl kk => lv_icmp_gt C.1 C.2.1 hd ht (fun hn => absurd hn hx) (fun _ => kk lsA hl)) (kf hx)
theorem q_if_le {sc : Option (Nat × (Nat → Int32))} {i pc : Nat} {ls : List (Nat × Value)} {st : List Value} {h h2 : q_H} {r : Option Value} {x : Int32} {off : Int} {tgt : Nat} (hd : decode (q_cB i) pc = .ok (.ifCond .le off, 3)) (ht : (pc : Int) + off = (tgt : Int)) (kt : x ≤ 0 → q_Ex sc i tgt ls st h r h2) (kf : ¬ (x ≤ 0) → q_Ex sc i (pc + 3) ls st h r h2) : q_Ex sc i pc ls (.int x :: st) h r h2 := by
  by_cases hx : x ≤ 0
  · exact q_go0 (fun p l e R s m args below meth c D b base cA H locs cells slots lsA Q C hR hS hSc hl kk => lv_if_le C.1 C.2.1 hd ht (fun _ => kk lsA hl) (fun hn => absurd hx hn)) (kt hx)
  · exact q_go0 (fun p l e R s m args below meth c D b base cA H locs cells slots lsA Q C hR hS hSc hl kk => lv_if_le C.1 C.2.1 hd ht (fun hn => absurd hn hx) (fun _ => kk lsA hl)) (kf hx)
theorem q_ic_le {sc : Option (Nat × (Nat → Int32))} {i pc : Nat} {ls : List (Nat × Value)} {st : List Value} {h h2 : q_H} {r : Option Value} {x y : Int32} {off : Int} {tgt : Nat} (hd : decode (q_cB i) pc = .ok (.if_icmp .le off, 3)) (ht : (pc : Int) + off = (tgt : Int)) (kt : x ≤ y → q_Ex sc i tgt ls st h r h2) (kf : ¬ (x ≤ y) → q_Ex sc i (pc + 3) ls st h r h2) : q_Ex sc i pc ls (.int y :: .int x :: st) h r h2 := by
  by_cases hx : x ≤ y
  · exact q_go0 (fun p l e R s m args below meth c D b base cA H locs cells slots lsA Q C hR hS hSc hl kk => lv_icmp_le C.1 C.2.1 hd ht (fun _ => kk lsA hl) (fun hn => absurd hx hn)) (kt hx)
  · exact q_go0 (fun p l e R s m args below meth c D b base cA H locs cells slots lsA Q C hR hS hSc hl kk => lv_icmp_le C.1 C.2.1 hd ht (fun hn => absurd hn hx) (fun _ => kk lsA hl)) (kf hx)
theorem q_if_ne {sc : Option (Nat × (Nat → Int32))} {i pc : Nat} {ls : List (Nat × Value)} {st : List Value} {h h2 : q_H} {r : Option Value} {x : Int32} {off : Int} {tgt : Nat} (hd : decode (q_cB i) pc = .ok (.ifCond .ne off, 3)) (ht : (pc : Int) + off = (tgt : Int)) (kt : ¬ (x = 0) → q_Ex sc i tgt ls st h r h2) (kf : x = 0 → q_Ex sc i (pc + 3) ls st h r h2) : q_Ex sc i pc ls (.int x :: st) h r h2 := by
  by_cases hx : x = 0
  · exact q_go0 (fun p l e R s m args below meth c D b base cA H locs cells slots lsA Q C hR hS hSc hl kk => lv_if_ne C.1 C.2.1 hd ht (fun hn => absurd hx hn) (fun _ => kk lsA hl)) (kf hx)
  · exact q_go0 (fun p l e R s m args below meth c D b base cA H locs cells slots lsA Q C hR hS hSc hl kk => lv_if_ne C.1 C.2.1 hd ht (fun _ => kk lsA hl) (fun hn => absurd hn hx)) (kt hx)
theorem q_ic_ne {sc : Option (Nat × (Nat → Int32))} {i pc : Nat} {ls : List (Nat × Value)} {st : List Value} {h h2 : q_H} {r : Option Value} {x y : Int32} {off : Int} {tgt : Nat} (hd : decode (q_cB i) pc = .ok (.if_icmp .ne off, 3)) (ht : (pc : Int) + off = (tgt : Int)) (kt : ¬ (x = y) → q_Ex sc i tgt ls st h r h2) (kf : x = y → q_Ex sc i (pc + 3) ls st h r h2) : q_Ex sc i pc ls (.int y :: .int x :: st) h r h2 := by
  by_cases hx : x = y
  · exact q_go0 (fun p l e R s m args below meth c D b base cA H locs cells slots lsA Q C hR hS hSc hl kk => lv_icmp_ne C.1 C.2.1 hd ht (fun hn => absurd hx hn) (fun _ => kk lsA hl)) (kf hx)
  · exact q_go0 (fun p l e R s m args below meth c D b base cA H locs cells slots lsA Q C hR hS hSc hl kk => lv_icmp_ne C.1 C.2.1 hd ht (fun _ => kk lsA hl) (fun hn => absurd hn hx)) (kt hx)
theorem q_lg_eq (x y : Int64) : lg_cmp x y = 0 ↔ x = y := by
  unfold lg_cmp
  by_cases h1 : y < x
  · simp only [h1, if_true]
    have h2 : ¬ x = y := fun e => by subst e; exact absurd h1 (Int64.lt_irrefl)
    have h3 : ¬ x < y := fun e => absurd (Int64.lt_trans h1 e) (Int64.lt_irrefl)
    have h4 : y ≤ x := Int64.le_of_lt h1
    have h5 : ¬ x ≤ y := fun e => absurd (Int64.lt_of_lt_of_le h1 e) (Int64.lt_irrefl)
    simp only [h1, h2, h3, h4, h5, iff_true, iff_false, true_iff, false_iff, not_true, not_false_eq_true]
    try decide
  · by_cases h2 : x = y
    · subst h2
      simp only [h1, if_false, if_true, Int64.le_refl, iff_true, iff_false, true_iff, not_true]
      try decide
    · have h3 : x < y := by
        rcases Int64.lt_or_eq_of_le (Int64.not_lt.mp h1) with q | q
        · exact q
        · exact absurd q h2
      have h4 : ¬ y ≤ x := fun e => absurd (Int64.lt_of_lt_of_le h3 e) (Int64.lt_irrefl)
      have h5 : x ≤ y := Int64.le_of_lt h3
      simp only [h1, h2, h3, h4, h5, if_false, iff_true, iff_false, true_iff, false_iff, not_true, not_false_eq_true]
      try decide
theorem q_lc_eq {sc : Option (Nat × (Nat → Int32))} {i pc : Nat} {ls : List (Nat × Value)} {st : List Value} {h h2 : q_H} {r : Option Value} {x y : Int64} {off : Int} {tgt : Nat} (hd0 : decode (q_cB i) pc = .ok (.lcmp, 1)) (hd : decode (q_cB i) (pc + 1) = .ok (.ifCond .eq off, 3)) (ht : ((pc + 1 : Nat) : Int) + off = (tgt : Int)) (kt : x = y → q_Ex sc i tgt ls st h r h2) (kf : ¬ (x = y) → q_Ex sc i (pc + 4) ls st h r h2) : q_Ex sc i pc ls (.long y :: .long x :: st) h r h2 :=
  q_x_lcmp hd0 (q_if_eq hd ht (fun q => kt ((q_lg_eq x y).mp q)) (fun q => kf (fun q2 => q ((q_lg_eq x y).mpr q2))))
theorem q_lg_ne (x y : Int64) : ¬ lg_cmp x y = 0 ↔ ¬ x = y := by
  unfold lg_cmp
  by_cases h1 : y < x
  · simp only [h1, if_true]
    have h2 : ¬ x = y := fun e => by subst e; exact absurd h1 (Int64.lt_irrefl)
    have h3 : ¬ x < y := fun e => absurd (Int64.lt_trans h1 e) (Int64.lt_irrefl)
    have h4 : y ≤ x := Int64.le_of_lt h1
    have h5 : ¬ x ≤ y := fun e => absurd (Int64.lt_of_lt_of_le h1 e) (Int64.lt_irrefl)
    simp only [h1, h2, h3, h4, h5, iff_true, iff_false, true_iff, false_iff, not_true, not_false_eq_true]
    try decide
  · by_cases h2 : x = y
    · subst h2
      simp only [h1, if_false, if_true, Int64.le_refl, iff_true, iff_false, true_iff, not_true]
      try decide
    · have h3 : x < y := by
        rcases Int64.lt_or_eq_of_le (Int64.not_lt.mp h1) with q | q
        · exact q
        · exact absurd q h2
      have h4 : ¬ y ≤ x := fun e => absurd (Int64.lt_of_lt_of_le h3 e) (Int64.lt_irrefl)
      have h5 : x ≤ y := Int64.le_of_lt h3
      simp only [h1, h2, h3, h4, h5, if_false, iff_true, iff_false, true_iff, false_iff, not_true, not_false_eq_true]
      try decide
theorem q_lc_ne {sc : Option (Nat × (Nat → Int32))} {i pc : Nat} {ls : List (Nat × Value)} {st : List Value} {h h2 : q_H} {r : Option Value} {x y : Int64} {off : Int} {tgt : Nat} (hd0 : decode (q_cB i) pc = .ok (.lcmp, 1)) (hd : decode (q_cB i) (pc + 1) = .ok (.ifCond .ne off, 3)) (ht : ((pc + 1 : Nat) : Int) + off = (tgt : Int)) (kt : ¬ x = y → q_Ex sc i tgt ls st h r h2) (kf : x = y → q_Ex sc i (pc + 4) ls st h r h2) : q_Ex sc i pc ls (.long y :: .long x :: st) h r h2 :=
  q_x_lcmp hd0 (q_if_ne hd ht (fun q => kt ((q_lg_ne x y).mp q)) (fun q => kf ((q_lg_eq x y).mp q)))
theorem q_lg_lt (x y : Int64) : lg_cmp x y < 0 ↔ x < y := by
  unfold lg_cmp
  by_cases h1 : y < x
  · simp only [h1, if_true]
    have h2 : ¬ x = y := fun e => by subst e; exact absurd h1 (Int64.lt_irrefl)
    have h3 : ¬ x < y := fun e => absurd (Int64.lt_trans h1 e) (Int64.lt_irrefl)
    have h4 : y ≤ x := Int64.le_of_lt h1
    have h5 : ¬ x ≤ y := fun e => absurd (Int64.lt_of_lt_of_le h1 e) (Int64.lt_irrefl)
    simp only [h1, h2, h3, h4, h5, iff_true, iff_false, true_iff, false_iff, not_true, not_false_eq_true]
    try decide
  · by_cases h2 : x = y
    · subst h2
      simp only [h1, if_false, if_true, Int64.le_refl, iff_true, iff_false, true_iff, not_true]
      try decide
    · have h3 : x < y := by
        rcases Int64.lt_or_eq_of_le (Int64.not_lt.mp h1) with q | q
        · exact q
        · exact absurd q h2
      have h4 : ¬ y ≤ x := fun e => absurd (Int64.lt_of_lt_of_le h3 e) (Int64.lt_irrefl)
      have h5 : x ≤ y := Int64.le_of_lt h3
      simp only [h1, h2, h3, h4, h5, if_false, iff_true, iff_false, true_iff, false_iff, not_true, not_false_eq_true]
      try decide
theorem q_lc_lt {sc : Option (Nat × (Nat → Int32))} {i pc : Nat} {ls : List (Nat × Value)} {st : List Value} {h h2 : q_H} {r : Option Value} {x y : Int64} {off : Int} {tgt : Nat} (hd0 : decode (q_cB i) pc = .ok (.lcmp, 1)) (hd : decode (q_cB i) (pc + 1) = .ok (.ifCond .lt off, 3)) (ht : ((pc + 1 : Nat) : Int) + off = (tgt : Int)) (kt : x < y → q_Ex sc i tgt ls st h r h2) (kf : ¬ (x < y) → q_Ex sc i (pc + 4) ls st h r h2) : q_Ex sc i pc ls (.long y :: .long x :: st) h r h2 :=
  q_x_lcmp hd0 (q_if_lt hd ht (fun q => kt ((q_lg_lt x y).mp q)) (fun q => kf (fun q2 => q ((q_lg_lt x y).mpr q2))))
theorem q_lg_ge (x y : Int64) : 0 ≤ lg_cmp x y ↔ y ≤ x := by
  unfold lg_cmp
  by_cases h1 : y < x
  · simp only [h1, if_true]
    have h2 : ¬ x = y := fun e => by subst e; exact absurd h1 (Int64.lt_irrefl)
    have h3 : ¬ x < y := fun e => absurd (Int64.lt_trans h1 e) (Int64.lt_irrefl)
    have h4 : y ≤ x := Int64.le_of_lt h1
    have h5 : ¬ x ≤ y := fun e => absurd (Int64.lt_of_lt_of_le h1 e) (Int64.lt_irrefl)
    simp only [h1, h2, h3, h4, h5, iff_true, iff_false, true_iff, false_iff, not_true, not_false_eq_true]
    try decide
  · by_cases h2 : x = y
    · subst h2
      simp only [h1, if_false, if_true, Int64.le_refl, iff_true, iff_false, true_iff, not_true]
      try decide
    · have h3 : x < y := by
        rcases Int64.lt_or_eq_of_le (Int64.not_lt.mp h1) with q | q
        · exact q
        · exact absurd q h2
      have h4 : ¬ y ≤ x := fun e => absurd (Int64.lt_of_lt_of_le h3 e) (Int64.lt_irrefl)
      have h5 : x ≤ y := Int64.le_of_lt h3
      simp only [h1, h2, h3, h4, h5, if_false, iff_true, iff_false, true_iff, false_iff, not_true, not_false_eq_true]
      try decide
theorem q_lc_ge {sc : Option (Nat × (Nat → Int32))} {i pc : Nat} {ls : List (Nat × Value)} {st : List Value} {h h2 : q_H} {r : Option Value} {x y : Int64} {off : Int} {tgt : Nat} (hd0 : decode (q_cB i) pc = .ok (.lcmp, 1)) (hd : decode (q_cB i) (pc + 1) = .ok (.ifCond .ge off, 3)) (ht : ((pc + 1 : Nat) : Int) + off = (tgt : Int)) (kt : y ≤ x → q_Ex sc i tgt ls st h r h2) (kf : ¬ (y ≤ x) → q_Ex sc i (pc + 4) ls st h r h2) : q_Ex sc i pc ls (.long y :: .long x :: st) h r h2 :=
  q_x_lcmp hd0 (q_if_ge hd ht (fun q => kt ((q_lg_ge x y).mp q)) (fun q => kf (fun q2 => q ((q_lg_ge x y).mpr q2))))
theorem q_lg_gt (x y : Int64) : 0 < lg_cmp x y ↔ y < x := by
  unfold lg_cmp
  by_cases h1 : y < x
  · simp only [h1, if_true]
    have h2 : ¬ x = y := fun e => by subst e; exact absurd h1 (Int64.lt_irrefl)
    have h3 : ¬ x < y := fun e => absurd (Int64.lt_trans h1 e) (Int64.lt_irrefl)
    have h4 : y ≤ x := Int64.le_of_lt h1
    have h5 : ¬ x ≤ y := fun e => absurd (Int64.lt_of_lt_of_le h1 e) (Int64.lt_irrefl)
    simp only [h1, h2, h3, h4, h5, iff_true, iff_false, true_iff, false_iff, not_true, not_false_eq_true]
    try decide
  · by_cases h2 : x = y
    · subst h2
      simp only [h1, if_false, if_true, Int64.le_refl, iff_true, iff_false, true_iff, not_true]
      try decide
    · have h3 : x < y := by
        rcases Int64.lt_or_eq_of_le (Int64.not_lt.mp h1) with q | q
        · exact q
        · exact absurd q h2
      have h4 : ¬ y ≤ x := fun e => absurd (Int64.lt_of_lt_of_le h3 e) (Int64.lt_irrefl)
      have h5 : x ≤ y := Int64.le_of_lt h3
      simp only [h1, h2, h3, h4, h5, if_false, iff_true, iff_false, true_iff, false_iff, not_true, not_false_eq_true]
      try decide
theorem q_lc_gt {sc : Option (Nat × (Nat → Int32))} {i pc : Nat} {ls : List (Nat × Value)} {st : List Value} {h h2 : q_H} {r : Option Value} {x y : Int64} {off : Int} {tgt : Nat} (hd0 : decode (q_cB i) pc = .ok (.lcmp, 1)) (hd : decode (q_cB i) (pc + 1) = .ok (.ifCond .gt off, 3)) (ht : ((pc + 1 : Nat) : Int) + off = (tgt : Int)) (kt : y < x → q_Ex sc i tgt ls st h r h2) (kf : ¬ (y < x) → q_Ex sc i (pc + 4) ls st h r h2) : q_Ex sc i pc ls (.long y :: .long x :: st) h r h2 :=
  q_x_lcmp hd0 (q_if_gt hd ht (fun q => kt ((q_lg_gt x y).mp q)) (fun q => kf (fun q2 => q ((q_lg_gt x y).mpr q2))))
theorem q_lg_le (x y : Int64) : lg_cmp x y ≤ 0 ↔ x ≤ y := by
  unfold lg_cmp
  by_cases h1 : y < x
  · simp only [h1, if_true]
    have h2 : ¬ x = y := fun e => by subst e; exact absurd h1 (Int64.lt_irrefl)
    have h3 : ¬ x < y := fun e => absurd (Int64.lt_trans h1 e) (Int64.lt_irrefl)
    have h4 : y ≤ x := Int64.le_of_lt h1
    have h5 : ¬ x ≤ y := fun e => absurd (Int64.lt_of_lt_of_le h1 e) (Int64.lt_irrefl)
    simp only [h1, h2, h3, h4, h5, iff_true, iff_false, true_iff, false_iff, not_true, not_false_eq_true]
    try decide
  · by_cases h2 : x = y
    · subst h2
      simp only [h1, if_false, if_true, Int64.le_refl, iff_true, iff_false, true_iff, not_true]
      try decide
    · have h3 : x < y := by
        rcases Int64.lt_or_eq_of_le (Int64.not_lt.mp h1) with q | q
        · exact q
        · exact absurd q h2
      have h4 : ¬ y ≤ x := fun e => absurd (Int64.lt_of_lt_of_le h3 e) (Int64.lt_irrefl)
      have h5 : x ≤ y := Int64.le_of_lt h3
      simp only [h1, h2, h3, h4, h5, if_false, iff_true, iff_false, true_iff, false_iff, not_true, not_false_eq_true]
      try decide
theorem q_lc_le {sc : Option (Nat × (Nat → Int32))} {i pc : Nat} {ls : List (Nat × Value)} {st : List Value} {h h2 : q_H} {r : Option Value} {x y : Int64} {off : Int} {tgt : Nat} (hd0 : decode (q_cB i) pc = .ok (.lcmp, 1)) (hd : decode (q_cB i) (pc + 1) = .ok (.ifCond .le off, 3)) (ht : ((pc + 1 : Nat) : Int) + off = (tgt : Int)) (kt : x ≤ y → q_Ex sc i tgt ls st h r h2) (kf : ¬ (x ≤ y) → q_Ex sc i (pc + 4) ls st h r h2) : q_Ex sc i pc ls (.long y :: .long x :: st) h r h2 :=
  q_x_lcmp hd0 (q_if_le hd ht (fun q => kt ((q_lg_le x y).mp q)) (fun q => kf (fun q2 => q ((q_lg_le x y).mpr q2))))
theorem q_goto {sc : Option (Nat × (Nat → Int32))} {i pc : Nat} {ls : List (Nat × Value)} {st : List Value} {h h2 : q_H} {r : Option Value} {off : Int} {tgt : Nat} (hd : decode (q_cB i) pc = .ok (.goto off, 3)) (ht : (pc : Int) + off = (tgt : Int)) (E : q_Ex sc i tgt ls st h r h2) : q_Ex sc i pc ls st h r h2 := q_go0 (fun p l e R s m args below meth c D b base cA H locs cells slots lsA Q C hR hS hSc hl kk => lv_goto C.1 C.2.1 hd ht (kk lsA hl)) E
theorem q_nul_r {sc : Option (Nat × (Nat → Int32))} {i pc : Nat} {ls : List (Nat × Value)} {st : List Value} {h h2 : q_H} {r : Option Value} {x : Nat} {off : Int} (hd : decode (q_cB i) pc = .ok (.ifnull off, 3)) (E : q_Ex sc i (pc + 3) ls st h r h2) : q_Ex sc i pc ls (.ref x :: st) h r h2 := q_go0 (fun p l e R s m args below meth c D b base cA H locs cells slots lsA Q C hR hS hSc hl kk => lv_ifnull C.1 C.2.1 hd (kk lsA hl)) E
theorem q_nul_n {sc : Option (Nat × (Nat → Int32))} {i pc : Nat} {ls : List (Nat × Value)} {st : List Value} {h h2 : q_H} {r : Option Value} {off : Int} {tgt : Nat} (hd : decode (q_cB i) pc = .ok (.ifnull off, 3)) (ht : (pc : Int) + off = (tgt : Int)) (E : q_Ex sc i tgt ls st h r h2) : q_Ex sc i pc ls (.null :: st) h r h2 := q_go0 (fun p l e R s m args below meth c D b base cA H locs cells slots lsA Q C hR hS hSc hl kk => lv_ifnullN C.1 C.2.1 hd ht (kk lsA hl)) E
theorem q_non_r {sc : Option (Nat × (Nat → Int32))} {i pc : Nat} {ls : List (Nat × Value)} {st : List Value} {h h2 : q_H} {r : Option Value} {x : Nat} {off : Int} {tgt : Nat} (hd : decode (q_cB i) pc = .ok (.ifnonnull off, 3)) (ht : (pc : Int) + off = (tgt : Int)) (E : q_Ex sc i tgt ls st h r h2) : q_Ex sc i pc ls (.ref x :: st) h r h2 := q_go0 (fun p l e R s m args below meth c D b base cA H locs cells slots lsA Q C hR hS hSc hl kk => lv_ifnonnull C.1 C.2.1 hd ht (kk lsA hl)) E
theorem q_non_n {sc : Option (Nat × (Nat → Int32))} {i pc : Nat} {ls : List (Nat × Value)} {st : List Value} {h h2 : q_H} {r : Option Value} {off : Int} (hd : decode (q_cB i) pc = .ok (.ifnonnull off, 3)) (E : q_Ex sc i (pc + 3) ls st h r h2) : q_Ex sc i pc ls (.null :: st) h r h2 := q_go0 (fun p l e R s m args below meth c D b base cA H locs cells slots lsA Q C hR hS hSc hl kk => lv_ifnonnullN C.1 C.2.1 hd (kk lsA hl)) E
theorem q_tabI {sc : Option (Nat × (Nat → Int32))} {i pc : Nat} {ls : List (Nat × Value)} {st : List Value} {h h2 : q_H} {r : Option Value} {dflt lo hi : Int} {offs : Array Int} {len : Nat} {x : Int32} {off : Int} {tgt : Nat} (hd : decode (q_cB i) pc = .ok (.tableswitch dflt lo hi offs, len)) (h1 : ¬ x.toInt < lo) (h9 : ¬ hi < x.toInt) (ho : offs[(x.toInt - lo).toNat]? = some off) (ht : (pc : Int) + off = (tgt : Int)) (E : q_Ex sc i tgt ls st h r h2) : q_Ex sc i pc ls (.int x :: st) h r h2 := q_go0 (fun p l e R s m args below meth c D b base cA H locs cells slots lsA Q C hR hS hSc hl kk => lv_tableIn C.1 C.2.1 hd h1 h9 ho ht (kk lsA hl)) E
theorem q_tabO {sc : Option (Nat × (Nat → Int32))} {i pc : Nat} {ls : List (Nat × Value)} {st : List Value} {h h2 : q_H} {r : Option Value} {dflt lo hi : Int} {offs : Array Int} {len : Nat} {x : Int32} {tgt : Nat} (hd : decode (q_cB i) pc = .ok (.tableswitch dflt lo hi offs, len)) (h1 : x.toInt < lo ∨ hi < x.toInt) (ht : (pc : Int) + dflt = (tgt : Int)) (E : q_Ex sc i tgt ls st h r h2) : q_Ex sc i pc ls (.int x :: st) h r h2 := q_go0 (fun p l e R s m args below meth c D b base cA H locs cells slots lsA Q C hR hS hSc hl kk => lv_tableOut C.1 C.2.1 hd h1 ht (kk lsA hl)) E
theorem q_look {sc : Option (Nat × (Nat → Int32))} {i pc : Nat} {ls : List (Nat × Value)} {st : List Value} {h h2 : q_H} {r : Option Value} {dflt : Int} {ps : Array (Int × Int)} {len : Nat} {x : Int32} {off : Int} {tgt : Nat} (hd : decode (q_cB i) pc = .ok (.lookupswitch dflt ps, len)) (hp : (ps.toList.zip (ps.toList.drop 1)).all (fun (a, next) => a.1 < next.1) = true) (ho : Op.lookupswitch.offset ps.toList dflt x.toInt = off) (ht : (pc : Int) + off = (tgt : Int)) (E : q_Ex sc i tgt ls st h r h2) : q_Ex sc i pc ls (.int x :: st) h r h2 := q_go0 (fun p l e R s m args below meth c D b base cA H locs cells slots lsA Q C hR hS hSc hl kk => lv_lookup C.1 C.2.1 hd hp ho ht (kk lsA hl)) E
theorem q_slen {sc : Option (Nat × (Nat → Int32))} {i pc : Nat} {ls : List (Nat × Value)} {st : List Value} {h h2 : q_H} {r : Option Value} {L : Nat} {xs : Nat → Int32} (hs : sc = some (L, xs)) (hd : decode (q_cB i) pc = .ok (.arraylength, 1)) (E : q_Ex sc i (pc + 1) ls (.int (Int32.ofNat L) :: st) h r h2) : q_Ex sc i pc ls (.ref 0 :: st) h r h2 := q_go0 (fun p l e R s m args below meth c D b base cA H locs cells slots lsA Q C hR hS hSc hl kk => va_slen (A := fun q => base ≤ q) C.1 C.2.1 (hSc L xs hs).1 (hSc L xs hs).2.1 (Nat.not_le.mpr (hSc L xs hs).2.2) hS hd (kk lsA hl)) E
theorem q_sld {sc : Option (Nat × (Nat → Int32))} {i pc : Nat} {ls : List (Nat × Value)} {st : List Value} {h h2 : q_H} {r : Option Value} {L : Nat} {xs : Nat → Int32} {a : Int32} (hs : sc = some (L, xs)) (hin : vp_in a L) (hd : decode (q_cB i) pc = .ok (.iaload, 1)) (E : q_Ex sc i (pc + 1) ls (.int (xs a.toNatClampNeg) :: st) h r h2) : q_Ex sc i pc ls (.int a :: .ref 0 :: st) h r h2 := q_go0 (fun p l e R s m args below meth c D b base cA H locs cells slots lsA Q C hR hS hSc hl kk => va_sld (A := fun q => base ≤ q) C.1 C.2.1 (hSc L xs hs).1 (hSc L xs hs).2.1 (Nat.not_le.mpr (hSc L xs hs).2.2) hS hin hd (kk lsA hl)) E
theorem q_vret {sc : Option (Nat × (Nat → Int32))} {i pc : Nat} {ls : List (Nat × Value)} {h : q_H} (hr : q_mR i = none) (hd : decode (q_cB i) pc = .ok (.return_, 1)) : q_Ex sc i pc ls [] h none h := ⟨⟨Nat.le_refl _, Nat.le_refl _⟩, fun p l e R s m args below meth c D b base cA H locs cells slots s0 lsA Q C hR hS hb hSc e1 e2 e3 e4 hl k => k pc lsA cA H locs cells slots ⟨hd, hr⟩ hR hS e1 e2⟩
theorem q_iret {sc : Option (Nat × (Nat → Int32))} {i pc : Nat} {ls : List (Nat × Value)} {h : q_H} {v : Int32} (ty : FieldType) (hr : q_mR i = some ty) (hn : narrow ty (.int v) = .int v) (hd : decode (q_cB i) pc = .ok (.ireturn, 1)) : q_Ex sc i pc ls [.int v] h (some (.int v)) h := ⟨⟨Nat.le_refl _, Nat.le_refl _⟩, fun p l e R s m args below meth c D b base cA H locs cells slots s0 lsA Q C hR hS hb hSc e1 e2 e3 e4 hl k => k pc lsA cA H locs cells slots ⟨hd, ty, hr, hn⟩ hR hS e1 e2⟩
theorem q_lret {sc : Option (Nat × (Nat → Int32))} {i pc : Nat} {ls : List (Nat × Value)} {h : q_H} {v : Int64} (hr : q_mR i = some .long) (hd : decode (q_cB i) pc = .ok (.lreturn, 1)) : q_Ex sc i pc ls [.long v] h (some (.long v)) h := ⟨⟨Nat.le_refl _, Nat.le_refl _⟩, fun p l e R s m args below meth c D b base cA H locs cells slots s0 lsA Q C hR hS hb hSc e1 e2 e3 e4 hl k => k pc lsA cA H locs cells slots ⟨hd, hr⟩ hR hS e1 e2⟩
theorem q_aret {sc : Option (Nat × (Nat → Int32))} {i pc : Nat} {ls : List (Nat × Value)} {h : q_H} {v : Nat} (n : String) (hr : q_mR i = some (.object n)) (hd : decode (q_cB i) pc = .ok (.areturn, 1)) : q_Ex sc i pc ls [.ref v] h (some (.ref v)) h := ⟨⟨Nat.le_refl _, Nat.le_refl _⟩, fun p l e R s m args below meth c D b base cA H locs cells slots s0 lsA Q C hR hS hb hSc e1 e2 e3 e4 hl k => k pc lsA cA H locs cells slots ⟨hd, n, hr⟩ hR hS e1 e2⟩
theorem q_nret {sc : Option (Nat × (Nat → Int32))} {i pc : Nat} {ls : List (Nat × Value)} {h : q_H} (n : String) (hr : q_mR i = some (.object n)) (hd : decode (q_cB i) pc = .ok (.areturn, 1)) : q_Ex sc i pc ls [.null] h (some .null) h := ⟨⟨Nat.le_refl _, Nat.le_refl _⟩, fun p l e R s m args below meth c D b base cA H locs cells slots s0 lsA Q C hR hS hb hSc e1 e2 e3 e4 hl k => k pc lsA cA H locs cells slots ⟨hd, n, hr⟩ hR hS e1 e2⟩
end
section
/-! calls -/
theorem q_goodIn {ws : List Cond} (h : ∀ w ∈ ws, w ∈ q_tbl) : GoodIn q_tbl ws := fun w hw => ⟨h w hw, good_of_word (List.mem_filter.mp (h w hw)).2⟩
theorem q_wM_in {j : Nat} (hj : j < 163) : ∀ w ∈ q_wM j, w ∈ q_tbl := fun w hw => ((q_good j hj) w hw).1
def q_calok (r : Nat × Nat × Nat × Nat × Nat × Nat × Nat) : Bool := decide (r.2.2.1 < 163) && (match r.2.2.2.1 with
  | 0 => decide (lw_tbl[r.2.2.2.2.1]? = some (.methodLink (q_cn r.1) r.2.1 (q_mY r.2.2.1))) && goodWord (.methodLink (q_cn r.1) r.2.1 (q_mY r.2.2.1)) && decide (lw_tbl[r.2.2.2.2.2.1]? = some (.instanceMethod (q_mY r.2.2.1))) && goodWord (.instanceMethod (q_mY r.2.2.1)) && decide (lw_tbl[r.2.2.2.2.2.2]? = some (.selects (q_mY r.2.2.1).cls (q_mY r.2.2.1) (q_mY r.2.2.1))) && goodWord (.selects (q_mY r.2.2.1).cls (q_mY r.2.2.1) (q_mY r.2.2.1))
  | 1 => decide (lw_tbl[r.2.2.2.2.1]? = some (.methodLink (q_cn r.1) r.2.1 (q_mY r.2.2.1))) && goodWord (.methodLink (q_cn r.1) r.2.1 (q_mY r.2.2.1)) && decide (lw_tbl[r.2.2.2.2.2.1]? = some (.static (q_mY r.2.2.1))) && goodWord (.static (q_mY r.2.2.1))
  | 2 => decide (lw_tbl[r.2.2.2.2.1]? = some (.methodLink (q_cn r.1) r.2.1 (q_mY r.2.2.1))) && goodWord (.methodLink (q_cn r.1) r.2.1 (q_mY r.2.2.1)) && decide (lw_tbl[r.2.2.2.2.2.1]? = some (.instanceMethod (q_mY r.2.2.1))) && goodWord (.instanceMethod (q_mY r.2.2.1)) && decide ((q_mY r.2.2.1).name = "<init>") && decide (q_mR r.2.2.1 = none)
  | _ => decide ((q_cn r.1, r.2.1, q_mY r.2.2.1) ∈ q_nst) && decide (lw_tbl[r.2.2.2.2.2.1]? = some (.instanceMethod (q_mY r.2.2.1))) && goodWord (.instanceMethod (q_mY r.2.2.1)) && decide ((q_mY r.2.2.1).name = "<init>") && decide (q_mR r.2.2.1 = none))
theorem q_cal_ok : q_cal.all q_calok = true := by decide +kernel
def q_cr (c idx j k : Nat) : Bool := q_cal.any (fun r => r.1 == c && r.2.1 == idx && r.2.2.1 == j && r.2.2.2.1 == k)
theorem q_cr_row {c idx j k : Nat} (h : q_cr c idx j k = true) : ∃ a1 a2 a3, q_calok (c, idx, j, k, a1, a2, a3) = true := by
  obtain ⟨r, hr, h2⟩ := List.any_eq_true.mp h
  simp only [Bool.and_eq_true, beq_iff_eq] at h2
  obtain ⟨⟨⟨e1, e2⟩, e3⟩, e4⟩ := h2
  have h1 := List.all_eq_true.mp q_cal_ok r hr
  obtain ⟨r1, r2, r3, r4, a1, a2, a3⟩ := r
  simp only at e1 e2 e3 e4
  subst e1; subst e2; subst e3; subst e4
  exact ⟨a1, a2, a3, h1⟩
/-- the room of a caller and of what it calls -/
def q_rm (i j : Nat) : Bool := decide (q_mF j + 1 ≤ q_mF i) && decide (8 + (q_mL j + 11) + q_mW j ≤ q_mW i)
theorem q_rm_at {i j : Nat} (h : q_rm i j = true) : q_mF j + 1 ≤ q_mF i ∧ 8 + (q_mL j + 11) + q_mW j ≤ q_mW i := by
  simp only [q_rm, Bool.and_eq_true, decide_eq_true_eq] at h
  exact h
def q_ct (st : List Value) : Nat := (st.map fun v => v.category).sum
theorem q_ct_map (ad : Nat → Nat) (st : List Value) : ((st.map (q_tv ad)).map fun v => v.category).sum = q_ct st := by
  unfold q_ct
  rw [List.map_map]
  congr 1
  apply List.map_congr_left
  intro v _
  exact q_tv_cat ad v
theorem q_blind {as : List Value} {D : va_G} {b base : Nat} {cA : Nat → Nat} {h : q_H} : FrameBlind (va_Pc as (fun U => q_R D b base cA h U U.heap)) := by
  intro a U g mk q
  obtain ⟨q0, q1⟩ := q
  exact ⟨q0, q1.same (U := U.calling g mk a) rfl⟩
theorem q_pre {as : List Value} {D : va_G} {b base : Nat} {cA : Nat → Nat} {h : q_H} {s : State} {H : Heap} (hR : q_R D b base cA h s H) (U : State) (hU : U.heap = H) (hW : s.WarmedH U.vm) : va_Pc as (fun U => q_R D b base cA h U U.heap) as.toArray U := by
  have h9 := hR.warm hW
  rw [← hU] at h9
  exact ⟨rfl, h9⟩
/-- behind a call -/
theorem q_back {sc : Option (Nat × (Nat → Int32))} {i pc j : Nat} {ls : List (Nat × Value)} {st st0 : List Value} {h h1 h2 : q_H} {r v : Option Value}
    (hm : h.1.length ≤ h1.1.length ∧ q_sl h ≤ q_sl h1)
    (hrun : ∀ (p : Program) (l : Launch) (e : Env) (R : Room) (s : State) (m : MethodId) (args : Array Value) (below : List Frame) (meth : Method) (c : Code) (D : va_G) (b base : Nat) (cA : Nat → Nat) (H : Heap) (locs : List Loc) (cells slots : Nat) (lsA : Array Slot),
      q_Cx i p R s m args meth c → q_R D b base cA h s H → lv_has lsA (q_mL i) (ls.map (q_tl (q_ad b base))) → cells + (h1.1.length - h.1.length) ≤ R.cells → slots + (q_sl h1 - q_sl h) ≤ R.slots →
      va_Run p l e R s m args below meth c H locs cells slots (h1.1.length - h.1.length) (q_sl h1 - q_sl h) (F0 m pc lsA (st0.map (q_tv (q_ad b base)))) (st.map (q_tv (q_ad b base))) (fun st o t => o = .returned (v.map (q_tv (q_ad b base))) ∧ (∃ cA2, q_R D b base cA2 h1 t t.heap) ∧ va_F (fun q => base ≤ q) st t) (fun q => base ≤ q))
    (E : q_Ex sc i (pc + 3) ls (v.toList ++ st) h1 r h2) : q_Ex sc i pc ls st0 h r h2 := by
  refine ⟨⟨Nat.le_trans hm.1 E.1.1, Nat.le_trans hm.2 E.1.2⟩, ?_⟩
  intro p l e R s m args below meth c D b base cA H locs cells slots s0 lsA Q C hR hS hb hSc e1 e2 e3 e4 hl k
  have g1 := E.1.1
  have g2 := E.1.2
  have hr := hrun p l e R s m args below meth c D b base cA H locs cells slots lsA C hR hl (by have := hm.1; omega) (by have := hm.2; omega)
  intro T hT X
  obtain ⟨v2, st₀, t, T', L, f0, X', hL, f1, f2, ⟨hv, ⟨cA2, hR2⟩, hF⟩, go⟩ := hr T hT X
  have hv : v2 = v.map (q_tv (q_ad b base)) := by injection hv
  subst hv
  have hal : t.vm.Alike s.vm := by rw [← f2]; exact X'.warmed.alike.symm
  have hw := E.2 p l e R s m args below meth c D b base cA2 T'.heap (locs ++ L) (cells + (h1.1.length - h.1.length)) (slots + (q_sl h1 - q_sl h)) s0 lsA Q C
    ⟨by rw [f1]; exact hR2.1, by rw [f1]; exact hR2.2.1, hR.2.2.1, fun n t2 N hn => va_K.moved hal (hR2.2.2.2.1 n t2 N hn), hR.2.2.2.2⟩
    ⟨by rw [f1]; have := hF.1; rw [f0] at this; exact Nat.le_trans hS.1 this, fun q u1 u2 => by
      rw [f1]
      have h9 := hF.2 q (by rw [f0]; exact Nat.lt_of_lt_of_le u1 hS.1) u2
      rw [f0] at h9
      exact h9.trans (hS.2.1 q u1 u2), fun q hq => by
      rcases List.mem_append.mp hq with hq | hq
      · exact hS.2.2 q hq
      · exact hL q hq⟩ hb hSc (by have := hm.1; omega) (by have := hm.2; omega) e3 e4 hl k
  have hst : (v.toList ++ st).map (q_tv (q_ad b base)) = (v.map (q_tv (q_ad b base))).toList ++ st.map (q_tv (q_ad b base)) := by cases v <;> rfl
  rw [hst] at hw
  obtain ⟨t2, a1, b1⟩ := hw T' rfl X'
  exact ⟨t2, go t2 a1, b1⟩
theorem q_len {as : List Value} {n : Nat} (ad : Nat → Nat) (h : as.length = n) : (as.map (q_tv ad)).length = n := by rw [List.length_map]; exact h
theorem q_callV {sc : Option (Nat × (Nat → Int32))} {i pc : Nat} {ls : List (Nat × Value)} {st : List Value} {h h1 h2 : q_H} {r v : Option Value} {idx : Nat} (j n ci : Nat) (as : List Value)
    (hc : q_cr (q_mC i) idx j 0 = true) (hrm : q_rm i j = true) (hn : as.length = q_mN j) (hct : q_ct st ≤ 8) (hk : q_kd h n = some (.inl ci)) (hci : ci < 10) (hcn : q_cn ci = (q_mY j).cls)
    (hd : decode (q_cB i) pc = .ok (.invokevirtual idx, 3)) (hCa : q_Ca j (.ref n :: as) h v h1) (E : q_Ex sc i (pc + 3) ls (v.toList ++ st) h1 r h2) : q_Ex sc i pc ls (as.reverse ++ .ref n :: st) h r h2 := by
  obtain ⟨a1, a2, a3, hrow⟩ := q_cr_row hc
  simp only [q_calok, Bool.and_eq_true, decide_eq_true_eq] at hrow
  obtain ⟨hj, ⟨⟨⟨⟨r1, r2⟩, r3⟩, r4⟩, r5⟩, r6⟩ := hrow
  obtain ⟨m1, m2, m3, m4, m5, m6, m7⟩ := q_mt_at hj
  obtain ⟨w1, w2⟩ := q_rm_at hrm
  refine q_back (j := j) hCa.1 ?_ E
  intro p l e R s m args below meth c D b base cA H locs cells slots lsA C hR hl hcl hsl
  obtain ⟨Cn, Tn, N, f1, f2, f3, f4, f5, f6, f7⟩ := q_cf ci hci
  have he := q_ws_get (ad := q_ad b base) (cA := cA) hk
  rw [q_en_obj hk] at he
  have hg : GoodIn q_tbl (wsV (q_cn (q_mC i)) idx (q_mY j).cls (q_mY j) (q_wM j)) := by
    refine q_goodIn (fun w hw => ?_)
    simp only [wsV, List.mem_append, List.mem_cons, List.not_mem_nil, or_false] at hw
    rcases hw with (rfl | rfl | rfl | rfl) | hw
    · exact q_tbl_of _ r1 r2
    · exact q_tbl_of _ r3 r4
    · exact q_tbl_of _ r5 r6
    · exact m2
    · exact q_wM_in hj w hw
  have hrc := va_recv hR.2.2.1 hR.1 (ci := ci) (q0 := n - 1) f1 he
  refine va_runV (C := (q_mY j).cls) (b := q_ad b base n) (As := as.map (q_tv (q_ad b base))) (rest := st.map (q_tv (q_ad b base))) ⟨C.1, C.2.1, C.2.2.2.1, C.2.2.2.2.1, C.2.2.2.2.2.1⟩ (hCa.2 l D b base cA) (cwV (q_mN j) C.2.2.2.2.2.1 hg rfl rfl rfl ⟨rfl, m5, m6, m7⟩ ⟨Nat.le_trans w1 C.2.2.2.2.2.2.2.2.1, Nat.le_trans w2 C.2.2.2.2.2.2.2.2.2⟩) ⟨q_blind, ?_, q_pre hR⟩ rfl (q_len _ hn) hl.1 ?_ ?_ hd ⟨hcl, hsl⟩
  · have h9 : Cn = (q_mY j).cls := f3.symm.trans hcn
    rw [← h9]
    exact hrc
  · simp [q_tv]
  · exact lv_room (by rw [q_ct_map]; exact hct)
theorem q_callS {sc : Option (Nat × (Nat → Int32))} {i pc : Nat} {ls : List (Nat × Value)} {st : List Value} {h h1 h2 : q_H} {r v : Option Value} {idx : Nat} (j : Nat) (as : List Value)
    (hc : q_cr (q_mC i) idx j 1 = true) (hrm : q_rm i j = true) (hn : as.length = q_mN j) (hct : q_ct st ≤ 8)
    (hd : decode (q_cB i) pc = .ok (.invokestatic idx, 3)) (hCa : q_Ca j as h v h1) (E : q_Ex sc i (pc + 3) ls (v.toList ++ st) h1 r h2) : q_Ex sc i pc ls (as.reverse ++ st) h r h2 := by
  obtain ⟨a1, a2, a3, hrow⟩ := q_cr_row hc
  simp only [q_calok, Bool.and_eq_true, decide_eq_true_eq] at hrow
  obtain ⟨hj, ⟨⟨r1, r2⟩, r3⟩, r4⟩ := hrow
  obtain ⟨m1, m2, m3, m4, m5, m6, m7⟩ := q_mt_at hj
  obtain ⟨w1, w2⟩ := q_rm_at hrm
  refine q_back (j := j) hCa.1 ?_ E
  intro p l e R s m args below meth c D b base cA H locs cells slots lsA C hR hl hcl hsl
  have hg : GoodIn q_tbl (va_wsS (q_cn (q_mC i)) idx (q_mY j) (q_wM j)) := by
    refine q_goodIn (fun w hw => ?_)
    simp only [va_wsS, List.mem_append, List.mem_cons, List.not_mem_nil, or_false] at hw
    rcases hw with (rfl | rfl | rfl) | hw
    · exact q_tbl_of _ r1 r2
    · exact q_tbl_of _ r3 r4
    · exact m2
    · exact q_wM_in hj w hw
  refine va_runS (As := as.map (q_tv (q_ad b base))) (rest := st.map (q_tv (q_ad b base))) ⟨C.1, C.2.1, C.2.2.2.1, C.2.2.2.2.1, C.2.2.2.2.2.1⟩ (hCa.2 l D b base cA) (va_cwS (q_mN j) C.2.2.2.2.2.1 hg rfl rfl rfl ⟨m5, m6, m7⟩ ⟨Nat.le_trans w1 C.2.2.2.2.2.2.2.2.1, Nat.le_trans w2 C.2.2.2.2.2.2.2.2.2⟩) ⟨q_blind, q_pre hR⟩ rfl (q_len _ hn) hl.1 ?_ ?_ hd ⟨hcl, hsl⟩
  · simp
  · exact lv_room (by rw [q_ct_map]; exact hct)
theorem q_callI {sc : Option (Nat × (Nat → Int32))} {i pc : Nat} {ls : List (Nat × Value)} {st : List Value} {h h1 h2 : q_H} {r : Option Value} {idx : Nat} (j n k : Nat) (as : List Value)
    (hc : q_cr (q_mC i) idx j k = true) (hkk : k = 2 ∨ k = 3) (hrm : q_rm i j = true) (hn : as.length = q_mN j) (hct : q_ct st ≤ 8)
    (hd : decode (q_cB i) pc = .ok (.invokespecial idx, 3)) (hCa : q_Ca j (.ref n :: as) h none h1) (E : q_Ex sc i (pc + 3) ls st h1 r h2) : q_Ex sc i pc ls (as.reverse ++ .ref n :: st) h r h2 := by
  obtain ⟨a1, a2, a3, hrow⟩ := q_cr_row hc
  obtain ⟨w1, w2⟩ := q_rm_at hrm
  refine q_back (j := j) (v := none) hCa.1 ?_ E
  intro p l e R s m args below meth c D b base cA H locs cells slots lsA C hR hl hcl hsl
  rcases hkk with rfl | rfl
  · simp only [q_calok, Bool.and_eq_true, decide_eq_true_eq] at hrow
    obtain ⟨hj, ⟨⟨⟨⟨r1, r2⟩, r3⟩, r4⟩, r5⟩, r6⟩ := hrow
    obtain ⟨m1, m2, m3, m4, m5, m6, m7⟩ := q_mt_at hj
    have hcc : q_wM j = Cond.code (q_mY j) (q_cB j) (q_mL j) none :: q_tbl := by unfold q_wM; rw [r6]
    refine va_runI (b := q_ad b base n) (As := as.map (q_tv (q_ad b base))) (rest := st.map (q_tv (q_ad b base))) ⟨C.1, C.2.1, C.2.2.2.1, C.2.2.2.2.1, C.2.2.2.2.2.1⟩ (hCa.2 l D b base cA) (cwI (q_mN j) C.2.2.2.2.2.1 (q_good j hj) hcc rfl rfl (C.2.2.2.2.2.1 _ m2) (C.2.2.2.2.2.1 _ (q_tbl_of _ r1 r2)) (C.2.2.2.2.2.1 _ (q_tbl_of _ r3 r4)) r5 ⟨m5, m6, m7⟩ ⟨Nat.le_trans w1 C.2.2.2.2.2.2.2.2.1, Nat.le_trans w2 C.2.2.2.2.2.2.2.2.2⟩) ⟨q_blind, q_pre hR⟩ rfl (q_len _ hn) hl.1 ?_ ?_ hd ⟨hcl, hsl⟩
    · simp [q_tv]
    · exact lv_room (by rw [q_ct_map]; exact hct)
  · simp only [q_calok, Bool.and_eq_true, decide_eq_true_eq] at hrow
    obtain ⟨hj, ⟨⟨⟨r1, r3⟩, r4⟩, r5⟩, r6⟩ := hrow
    obtain ⟨m1, m2, m3, m4, m5, m6, m7⟩ := q_mt_at hj
    have hcc : q_wM j = Cond.code (q_mY j) (q_cB j) (q_mL j) none :: q_tbl := by unfold q_wM; rw [r6]
    have hn1 : va_Nw (.methodLinkNest (q_cn (q_mC i)) idx (q_mY j) "RootForms") s := hR.2.2.2.2.1 (q_cn (q_mC i), idx, q_mY j) r1
    have hcn : va_CN R s args (q_cn (q_mC i)) idx (q_mY j) "RootForms" (q_cB j) (q_mL j) none (q_wM j) { frames := q_mF j, cells := h1.1.length - h.1.length, slots := q_sl h1 - q_sl h, locals := q_mW j } (h1.1.length - h.1.length) (q_sl h1 - q_sl h) (q_mN j) := va_cnB (q_mN j) C.2.2.2.2.2.1 (q_good j hj) hcc rfl rfl hn1 (C.2.2.2.2.2.1 _ m2) ⟨m5, m6, m7⟩ ⟨Nat.le_trans w1 C.2.2.2.2.2.2.2.2.1, Nat.le_trans w2 C.2.2.2.2.2.2.2.2.2⟩
    refine va_runIN (host := "RootForms") (b := q_ad b base n) (As := as.map (q_tv (q_ad b base))) (rest := st.map (q_tv (q_ad b base))) ⟨C.1, C.2.1, C.2.2.2.1, C.2.2.2.2.1, C.2.2.2.2.2.1⟩ (hCa.2 l D b base cA) ⟨hcn, r5, C.2.2.2.2.2.1 _ (q_tbl_of _ r3 r4)⟩ ⟨q_blind, q_pre hR⟩ rfl (q_len _ hn) hl.1 ?_ ?_ hd ⟨hcl, hsl⟩
    · simp [q_tv]
    · exact lv_room (by rw [q_ct_map]; exact hct)
def q_objok (r : Nat × Nat × Nat) : Bool := decide (lw_tbl[r.2.2]? = some (.methodLink (q_cn r.1) r.2.1 Lib.objectInit)) && goodWord (.methodLink (q_cn r.1) r.2.1 Lib.objectInit)
theorem q_obj_ok : q_obj.all q_objok = true := by decide +kernel
set_option maxRecDepth 100000 in
theorem q_objw : Cond.instanceMethod Lib.objectInit ∈ q_tbl ∧ Cond.code Lib.objectInit ⟨#[0xb1]⟩ 1 none ∈ q_tbl := ⟨q_tbl_of 69 rfl rfl, q_tbl_of 70 rfl rfl⟩
theorem q_objI {sc : Option (Nat × (Nat → Int32))} {i pc : Nat} {ls : List (Nat × Value)} {st : List Value} {h h2 : q_H} {r : Option Value} {idx n : Nat}
    (hc : q_obj.any (fun r => r.1 == q_mC i && r.2.1 == idx) = true) (hrm : (decide (1 ≤ q_mF i) && decide (q_ct st + 12 ≤ q_mW i)) = true)
    (hd : decode (q_cB i) pc = .ok (.invokespecial idx, 3)) (E : q_Ex sc i (pc + 3) ls st h r h2) : q_Ex sc i pc ls (.ref n :: st) h r h2 := by
  obtain ⟨w, hw, e⟩ := List.any_eq_true.mp hc
  simp only [Bool.and_eq_true, beq_iff_eq] at e
  simp only [Bool.and_eq_true, decide_eq_true_eq] at hrm
  have h1 := List.all_eq_true.mp q_obj_ok w hw
  simp only [q_objok, Bool.and_eq_true, decide_eq_true_eq] at h1
  rw [e.1, e.2] at h1
  refine q_go0 (fun p l e R s m args below meth c D b base cA H locs cells slots lsA Q C hR hS hSc hl kk => ?_) E
  refine W.objInit C.1 C.2.1 C.2.2.2.2.1 (C.2.2.2.2.2.1 _ (q_tbl_of _ h1.1 h1.2)) (C.2.2.2.2.2.1 _ q_objw.1) (C.2.2.2.2.2.1 _ q_objw.2) rfl (by rw [C.2.2.2.1]; exact hl.1) rfl hd (Nat.le_trans hrm.1 C.2.2.2.2.2.2.2.2.1) ?_ (kk lsA hl)
  have h9 := q_ct_map (q_ad b base) st
  have h8 := C.2.2.2.2.2.2.2.2.2
  show 2 * 0 + ((st.map (q_tv (q_ad b base))).map fun v => v.category).sum + 12 ≤ R.locals
  omega
/-! a whole call out of its body -/
theorem q_args_map (ad : Nat → Nat) (as : List Value) : ∀ k, lv_args k (as.map (q_tv ad)) = (lv_args k as).map (q_tl ad) := by
  induction as with
  | nil => intro k; rfl
  | cons a as ih =>
    intro k
    simp only [List.map_cons, lv_args, q_tv_cat, ih]
    rfl
theorem q_sl_map (ad : Nat → Nat) (as : List Value) : (lg_sl (as.map (q_tv ad))).length = (lg_sl as).length := by
  induction as with
  | nil => rfl
  | cons a as ih =>
    have e : ∀ (v : Value) (vs : List Value), (lg_sl (v :: vs)).length = (if v.category = 2 then 2 else 1) + (lg_sl vs).length := by
      intro v vs
      simp only [lg_sl, List.flatMap_cons, List.length_append]
      split <;> rfl
    rw [List.map_cons, e, e, q_tv_cat, ih]
theorem q_ofW {l : Launch} {y : MethodName} {ws ws' : List Cond} {rm : Room} {Pc : Array Value → State → Prop} {Qc : Array Value → State → Outcome → State → Prop} {mc ms : Nat} {free : Addr → Prop} {cc : ByteArray} {maxL : Nat} {ret : Option FieldType}
    (hy : plainFor y = true) (hw : ws = Cond.code y cc maxL ret :: ws')
    (body : ∀ p e s m args below meth c s₁, BodyLoose p l y (headSpec ws rm) cc maxL ret e s m args below meth c s₁ → c.maxLocals = maxL → Pc args s →
      W p l e (headSpec ws rm).room s m args below meth c s.heap [] 0 0 (MQ below Qc args s mc ms free) (entryFrame m args maxL)) : Met l y ws rm Pc Qc mc ms free := by
  refine MetFree.of_bodySF (code := cc) (maxLocals := maxL) (ret := ret) hy ?_ ?_
  · intro args s m h hn
    obtain ⟨meth, c, h1, h2, h3, h4, h5, h6, -, -⟩ := Cond.code_spec hn (atoms_spec (ws := ws) h _ (by rw [hw]; exact List.mem_cons_self))
    exact ⟨meth, c, h1, h2, h3, h4, h5, h6⟩
  · intro p e s m args below meth c s₁ B hml hP _
    have hh0 : s₁.heap = s.heap := by rw [B.state]; rfl
    obtain ⟨t, a1, o, b1, b2, b3⟩ := body p e s m args below meth c s₁ B hml hP s₁ hh0 (Stand.of_body B)
    exact ⟨t, o, a1, b1, b2, ⟨b3.1, b3.2⟩⟩
theorem q_Ca_of {j : Nat} {as : List Value} {h h2 : q_H} {r : Option Value} (hj : j < 163) (hl : (lg_sl as).length ≤ q_mL j) (E : q_Ex none j 0 (lv_args 0 as) [] h r h2) : q_Ca j as h r h2 := by
  refine ⟨E.1, ?_⟩
  intro l D b base cA
  obtain ⟨m1, m2, m3, m4, m5, m6, m7⟩ := q_mt_at hj
  refine q_ofW (cc := q_cB j) (maxL := q_mL j) (ret := q_mR j) m4 rfl ?_
  intro p e s m args below meth c s₁ B hml hv
  obtain ⟨rfl, hR⟩ := hv
  have hts := atoms_spec (ws := q_wM j) B.pre
  have hown : s.vm.findClass (q_mY j).cls = some m.cls := findClass_of_methodNamed B.named
  rw [lg_entry_eq]
  have hl2 := lv_entry (as.map (q_tv (q_ad b base))) (n := q_mL j) (by rw [q_sl_map]; exact hl)
  rw [q_args_map] at hl2
  generalize (lg_sl (as.map (q_tv (q_ad b base))) ++ List.replicate (q_mL j - (lg_sl (as.map (q_tv (q_ad b base)))).length) Slot.unset).toArray = lsA at hl2 ⊢
  have C : q_Cx j p (headSpec (q_wM j) { frames := q_mF j, cells := h2.1.length - h.1.length, slots := q_sl h2 - q_sl h, locals := q_mW j }).room s m (as.map (q_tv (q_ad b base))).toArray meth c :=
    ⟨B.exec, B.bytes, B.returns, hml, by rw [m3]; exact hown, fun w hw => hts w (List.mem_cons_of_mem _ hw), B.notSynchronized, fun hn => by rw [← hn]; exact (name_of_methodNamed B.named B.method).1, Nat.le_refl _, Nat.le_refl _⟩
  have hsz := hR.2.1
  have g1 := E.1.1
  have g2 := E.1.2
  refine E.2 p l e _ s m _ below meth c D b base cA s.heap [] 0 0 (q_sl h) lsA _ C hR va_S.rf (by omega) (fun L xs hh => by cases hh) (by omega) (by omega) ?_ ?_ hl2 ?_
  · show base + h2.1.length ≤ h2.1.length - h.1.length + s.heap.size
    omega
  · show q_sl h2 ≤ q_sl h2 - q_sl h + q_sl h
    omega
  · intro pcR lsR cA2 H2 locs2 cells2 slots2 hrt hR2 hS2 c1 c2
    have ec : cells2 = h2.1.length - h.1.length := by omega
    have es : slots2 = q_sl h2 - q_sl h := by omega
    subst ec; subst es
    have hq : ∀ t : State, t.heap = H2 → s.WarmedH t.vm → (Outcome.returned (r.map (q_tv (q_ad b base))) = .returned (r.map (q_tv (q_ad b base))) ∧ (∃ cA2, q_R D b base cA2 h2 t t.heap) ∧ va_F (fun q => base ≤ q) s t) :=
      fun t ht hW => ⟨rfl, ⟨cA2, by rw [ht]; exact hR2.warm hW⟩, hS2.F ht⟩
    have hlocks := B.notSynchronized
    cases r with
    | none => exact W.vret C.1 C.2.1 (by rw [C.2.2.1]; exact hrt.2) hq hS2.2.2 hrt.1
    | some w =>
      cases w with
      | int v =>
        obtain ⟨hd, ty, h1, h3⟩ := hrt
        exact W.zret C.1 C.2.1 (by rw [C.2.2.1]; exact h1) h3 hq hS2.2.2 hd
      | long v => exact W.lret C.1 C.2.1 (by rw [C.2.2.1]; exact hrt.2) hq hS2.2.2 hrt.1
      | ref a =>
        obtain ⟨hd, n, h1⟩ := hrt
        exact W.aret C.1 C.2.1 (by rw [C.2.2.1]; exact h1) (Or.inl ⟨n, rfl⟩) (Or.inr ⟨_, rfl⟩) hq hS2.2.2 hd
      | null =>
        obtain ⟨hd, n, h1⟩ := hrt
        exact W.aret C.1 C.2.1 (by rw [C.2.2.1]; exact h1) (Or.inl ⟨n, rfl⟩) (Or.inl rfl) hq hS2.2.2 hd
      | _ => exact absurd hrt id
end
section
/-! what a method makes -/
def q_zz {α : Type} (f : Nat → Nat → α) (o : Nat) (v : α) : Nat → Nat → α := fun a c => if a = o then v else f a c
def q_al (h : q_H) (x : q_Kd) : q_H := (h.1 ++ [x], q_zz h.2.1 (h.1.length + 1) 0, q_zz h.2.2.1 (h.1.length + 1) 0, q_zz h.2.2.2 (h.1.length + 1) none)
def q_dv (ci k : Nat) : Value := match q_fk ci k with
  | 0 => .int 0
  | 1 => .long 0
  | _ => .null
def q_e0 (x : q_Kd) (cA : Nat) : va_E := match x with
  | .inl ci => .inr (ci, (List.range (q_nf ci)).map (q_dv ci))
  | .inr (0, N) => .inl (cA, N, .inl (fun _ => 0))
  | .inr (1, N) => .inl (cA, N, .inr (.inl (fun _ => 0)))
  | .inr (_, N) => .inl (cA, N, .inr (.inr (.inr (.inr (fun _ => none)))))
theorem q_kd_old (h : q_H) (x : q_Kd) {m : Nat} (hm : m ≤ h.1.length) : q_kd (q_al h x) m = q_kd h m := by
  cases m with
  | zero => rfl
  | succ k =>
    show (h.1 ++ [x])[k]? = h.1[k]?
    exact List.getElem?_append_left (by omega)
theorem q_kd_new (h : q_H) (x : q_Kd) : q_kd (q_al h x) (h.1.length + 1) = some x := by
  show (h.1 ++ [x])[h.1.length]? = some x
  simp
theorem q_zz_ne {α : Type} {f : Nat → Nat → α} {o m : Nat} {v : α} (h : m ≠ o) : q_zz f o v m = f m := by funext c; simp [q_zz, h]
theorem q_zz_at {α : Type} {f : Nat → Nat → α} {o : Nat} {v : α} : q_zz f o v o = fun _ => v := by funext c; simp [q_zz]
theorem q_en_old {ad cA cA2 : Nat → Nat} {h : q_H} {x : q_Kd} {m : Nat} (hm : m ≤ h.1.length) (hc : cA2 m = cA m) : q_en ad cA2 (q_al h x) m = q_en ad cA h m := by
  have ek := q_kd_old h x hm
  have e1 : (q_al h x).2.1 m = h.2.1 m := q_zz_ne (by omega)
  have e2 : (q_al h x).2.2.1 m = h.2.2.1 m := q_zz_ne (by omega)
  have e3 : (q_al h x).2.2.2 m = h.2.2.2 m := q_zz_ne (by omega)
  have ef : ∀ ci, q_fv ad (q_al h x) ci m = q_fv ad h ci m := fun ci => funext fun k => by simp only [q_fv, e1, e2, e3]
  simp only [q_en, ek, e1, e2, e3, ef, hc]
theorem q_en_new {ad cA : Nat → Nat} {h : q_H} {x : q_Kd} (hx : ∀ t N, x = .inr (t, N) → t < 3) : q_en ad cA (q_al h x) (h.1.length + 1) = (ad (h.1.length + 1), q_e0 x (cA (h.1.length + 1))) := by
  have e1 : (q_al h x).2.1 (h.1.length + 1) = fun _ => 0 := q_zz_at
  have e2 : (q_al h x).2.2.1 (h.1.length + 1) = fun _ => 0 := q_zz_at
  have e3 : (q_al h x).2.2.2 (h.1.length + 1) = fun _ => none := q_zz_at
  have ef : ∀ ci, q_fv ad (q_al h x) ci (h.1.length + 1) = q_dv ci := fun ci => funext fun k => by
    simp only [q_fv, q_dv, e1, e2, e3]
    rcases hk : q_fk ci k with _ | _ | _ <;> rfl
  simp only [q_en, q_kd_new]
  congr 1
  match x, hx with
  | .inl ci, _ => simp only [q_e0, ef]
  | .inr (0, N), _ => simp only [q_e0, e1]
  | .inr (1, N), _ => simp only [q_e0, e2]
  | .inr (2, N), _ => simp only [q_e0, e3]; rfl
  | .inr (t + 3, N), hx => exact absurd (hx _ _ rfl) (by omega)
theorem q_ws_al {ad cA cA2 : Nat → Nat} {h : q_H} {x : q_Kd} (hc : ∀ m, m ≤ h.1.length → cA2 m = cA m) : q_ws ad cA2 (q_al h x) = q_ws ad cA h ++ [q_en ad cA2 (q_al h x) (h.1.length + 1)] := by
  unfold q_ws
  have hl : (q_al h x).1.length = h.1.length + 1 := by simp [q_al]
  rw [hl, List.range_succ, List.map_append]
  congr 1
  apply List.map_congr_left
  intro k hk
  have hk := List.mem_range.mp hk
  exact q_en_old (by omega) (hc _ (by omega))
theorem q_sl_al (h : q_H) (x : q_Kd) : q_sl (q_al h x) = q_sl h + q_sz x := by simp [q_sl, q_al]
theorem q_go2 {sc : Option (Nat × (Nat → Int32))} {i pc pc2 : Nat} {ls : List (Nat × Value)} {st st0 : List Value} {h h2 : q_H} {r : Option Value} (x : q_Kd) (hx : ∀ t N, x = .inr (t, N) → t < 3)
    (hW : ∀ (p : Program) (l : Launch) (e : Env) (R : Room) (s : State) (m : MethodId) (args : Array Value) (below : List Frame) (meth : Method) (c : Code) (D : va_G) (b base : Nat) (cA : Nat → Nat) (H : Heap) (locs : List Loc) (cells slots : Nat) (lsA : Array Slot) (Q : State → Prop),
      q_Cx i p R s m args meth c → q_R D b base cA h s H → va_S (fun q => base ≤ q) H H locs → base ≤ H.size → cells + 1 ≤ R.cells → slots + q_sz x ≤ R.slots →
      (∀ (q cAn : Nat) (H1 : Heap), va_P D q_cl (q_ws (q_ad b base) cA h ++ [(q, q_e0 x cAn)]) H1 → va_D (fun q => base ≤ q) (q_ws (q_ad b base) cA h ++ [(q, q_e0 x cAn)]) → va_S (fun q => base ≤ q) H H1 locs → (∀ t N, x = .inr (t, N) → va_K D q_cl [(cAn, q_et t)] s) →
        W p l e R s m args below meth c H1 locs (cells + 1) (slots + q_sz x) Q (F0 m pc2 lsA (.ref q :: st.map (q_tv (q_ad b base))))) →
      W p l e R s m args below meth c H locs cells slots Q (F0 m pc lsA (st0.map (q_tv (q_ad b base)))))
    (E : q_Ex sc i pc2 ls (.ref (h.1.length + 1) :: st) (q_al h x) r h2) : q_Ex sc i pc ls st0 h r h2 := by
  have hl : (q_al h x).1.length = h.1.length + 1 := by simp [q_al]
  have hs := q_sl_al h x
  have g1 := E.1.1
  have g2 := E.1.2
  refine ⟨⟨by omega, by omega⟩, ?_⟩
  intro p l e R s m args below meth c D b base cA H locs cells slots s0 lsA Q C hR hS hb hSc e1 e2 e3 e4 hlv k
  have hsz := hR.2.1
  refine hW p l e R s m args below meth c D b base cA H locs cells slots lsA Q C hR ⟨Nat.le_refl _, fun _ _ _ => rfl, hS.2.2⟩ (by omega) (by omega) (by omega) ?_
  intro q cAn H1 hP1 hD1 hS1 hK1
  refine q_W.sz (fun hz => ?_)
  have hlen : (q_ws (q_ad b base) cA h).length = h.1.length := q_ws_len _ _ _
  have hat : (q_ws (q_ad b base) cA h ++ [(q, q_e0 x cAn)])[h.1.length]? = some (q, q_e0 x cAn) := by
    rw [List.getElem?_append_right (by omega), hlen]
    simp
  have hq1 : base ≤ q := hD1.2 _ _ hat
  have hq2 : q < H1.size := (hP1 _ _ hat).lt
  have hq3 : ¬ q < base + h.1.length := by
    intro hlt
    have hk : q - base < h.1.length := by omega
    have hat2 : (q_ws (q_ad b base) cA h ++ [(q, q_e0 x cAn)])[q - base]? = some (q_en (q_ad b base) cA h (q - base + 1)) := by
      rw [List.getElem?_append_left (by omega)]
      simp [q_ws, hk]
    have h9 := hD1.1 _ _ _ _ hat hat2 (by simp only [q_en, q_ad]; omega)
    omega
  have hq : q = q_ad b base (h.1.length + 1) := by simp only [q_ad]; omega
  have hcA : ∀ m, m ≤ h.1.length → (fun n => if n = h.1.length + 1 then cAn else cA n) m = cA m := fun m hm => if_neg (by omega)
  have hz1 : H1.size = base + (q_al h x).1.length := by have := hS1.1; omega
  have hw := E.2 p l e R s m args below meth c D b base (fun n => if n = h.1.length + 1 then cAn else cA n) H1 locs (cells + 1) (slots + q_sz x) s0 lsA Q C
    ⟨by rw [q_ws_al hcA, q_en_new hx]; simp only [if_true]; rw [← hq]; exact hP1, hz1, hR.2.2.1, fun n t N hn => by
      by_cases hn2 : n = h.1.length + 1
      · subst hn2
        rw [q_kd_new] at hn
        simp only [if_true]
        exact hK1 t N (Option.some.inj hn)
      · have hn3 : n ≤ h.1.length := by
          cases n with
          | zero => omega
          | succ n =>
            have h9 : (h.1 ++ [x])[n]? = some (.inr (t, N)) := hn
            have h8 := (List.getElem?_eq_some_iff.mp h9).1
            simp at h8
            omega
        rw [q_kd_old h x hn3] at hn
        simp only [if_neg hn2]
        exact hR.2.2.2.1 n t N hn, hR.2.2.2.2⟩
    ⟨Nat.le_trans hS.1 hS1.1, fun q2 u1 u2 => (hS1.2.1 q2 (Nat.lt_of_lt_of_le u1 hS.1) u2).trans (hS.2.1 q2 u1 u2), hS1.2.2⟩ hb hSc (by omega) (by omega) e3 e4 hlv k
  rw [List.map_cons] at hw
  show W p l e R s m args below meth c H1 locs (cells + 1) (slots + q_sz x) Q (F0 m pc2 lsA (.ref q :: st.map (q_tv (q_ad b base))))
  rw [hq]
  exact hw
def q_newok (r : Nat × Nat × Nat × Nat × Nat × Nat) : Bool := decide (r.2.2.1 < 10) && decide (lw_tbl[r.2.2.2.1]? = some (.classLink (q_cn r.1) r.2.1 (q_cn r.2.2.1))) && goodWord (.classLink (q_cn r.1) r.2.1 (q_cn r.2.2.1)) && decide (lw_tbl[r.2.2.2.2.1]? = some (.instantiable (q_cn r.2.2.1) (q_nf r.2.2.1))) && goodWord (.instantiable (q_cn r.2.2.1) (q_nf r.2.2.1)) && decide (lw_tbl[r.2.2.2.2.2]? = some (.initialized (q_cn r.2.2.1))) && goodWord (.initialized (q_cn r.2.2.1))
theorem q_new_ok : q_new.all q_newok = true := by decide +kernel
def q_nw (c idx ci : Nat) : Bool := q_new.any (fun r => r.1 == c && r.2.1 == idx && r.2.2.1 == ci)
theorem q_nw_at {c idx ci : Nat} (h : q_nw c idx ci = true) : ci < 10 ∧ Cond.classLink (q_cn c) idx (q_cn ci) ∈ q_tbl ∧ Cond.instantiable (q_cn ci) (q_nf ci) ∈ q_tbl ∧ Cond.initialized (q_cn ci) ∈ q_tbl := by
  obtain ⟨r, hr, h2⟩ := List.any_eq_true.mp h
  simp only [Bool.and_eq_true, beq_iff_eq] at h2
  obtain ⟨⟨e1, e2⟩, e3⟩ := h2
  have h1 := List.all_eq_true.mp q_new_ok r hr
  simp only [q_newok, Bool.and_eq_true, decide_eq_true_eq] at h1
  rw [e1, e2, e3] at h1
  obtain ⟨⟨⟨⟨⟨⟨a1, a2⟩, a3⟩, a4⟩, a5⟩, a6⟩, a7⟩ := h1
  exact ⟨a1, q_tbl_of _ a2 a3, q_tbl_of _ a4 a5, q_tbl_of _ a6 a7⟩
theorem q_dv_ok {ci k : Nat} (hci : ci < 10) (hk : k < q_nf ci) : defaultValue (q_ty ci k) = q_dv ci k := by
  have h := q_fts_at hci hk
  unfold q_fts at h
  unfold q_dv
  split at h <;> simp_all [defaultValue]
theorem q_x_new {sc : Option (Nat × (Nat → Int32))} {i pc : Nat} {ls : List (Nat × Value)} {st : List Value} {h h2 : q_H} {r : Option Value} {idx : Nat} (ci : Nat) (hn : q_nw (q_mC i) idx ci = true)
    (hd : decode (q_cB i) pc = .ok (.new idx, 3)) (E : q_Ex sc i (pc + 3) ls (.ref (h.1.length + 1) :: st) (q_al h (.inl ci)) r h2) : q_Ex sc i pc ls st h r h2 := by
  obtain ⟨hci, w1, w2, w3⟩ := q_nw_at hn
  obtain ⟨Cn, T, N, f1, f2, f3, f4, f5, f6, f7⟩ := q_cf ci hci
  subst f4
  subst f3
  refine q_go2 (.inl ci) (fun t N e => by cases e) (fun p l e R s m args below meth c D b base cA H locs cells slots lsA Q C hR hS hb hc1 hs1 kk => ?_) E
  refine va_new (D := D) (cl := q_cl) (tys := []) (A := fun q => base ≤ q) (fs := (List.range (q_nf ci)).map (q_dv ci)) C.1 C.2.1 C.2.2.2.2.2.1 f5 (q_ty ci) f6 C.2.2.2.2.1 (C.2.2.2.2.2.1 _ w1) (C.2.2.2.2.2.1 _ w2) (C.2.2.2.2.2.1 _ w3) hR.2.2.1 hR.1 (q_D b base cA h) hS (fun q hq => Nat.le_trans hb hq) f1 ?_ hc1 hs1 hd (fun q H1 hP1 hD1 hS1 => kk q 0 H1 hP1 hD1 hS1 (fun t N e => by cases e))
  intro j hj
  rw [q_dv_ok hci hj]
  simp [vp_V, hj]
set_option maxRecDepth 100000 in
theorem q_arw : Cond.arrayClass .int ∈ q_tbl ∧ Cond.arrayClass .long ∈ q_tbl := ⟨q_tbl_of 128 rfl rfl, q_tbl_of 941 rfl rfl⟩
theorem q_x_newi {sc : Option (Nat × (Nat → Int32))} {i pc : Nat} {ls : List (Nat × Value)} {st : List Value} {h h2 : q_H} {r : Option Value} {n : Int32} (N : Nat) (hn : ¬ n < 0) (hN : n.toNatClampNeg = N) (hNb : N ≤ 100000)
    (hd : decode (q_cB i) pc = .ok (.newarray .int, 2)) (E : q_Ex sc i (pc + 2) ls (.ref (h.1.length + 1) :: st) (q_al h (.inr (0, N))) r h2) : q_Ex sc i pc ls (.int n :: st) h r h2 := by
  refine q_go2 (.inr (0, N)) (fun t N e => by cases e; decide) (fun p l e R s m args below meth c D b base cA H locs cells slots lsA Q C hR hS hb hc1 hs1 kk => ?_) E
  refine va_newa (atype := .int) (D := D) (cl := q_cl) (tys := []) (A := fun q => base ≤ q) (ty := .int) (a0 := (N, .inl (fun _ => 0))) C.1 C.2.1 (C.2.2.2.2.2.1 _ q_arw.1) rfl hR.2.2.1 hR.1 (q_D b base cA h) hS (fun q hq => Nat.le_trans hb hq) (fun cA => rfl) hn hN ?_ hc1 hs1 hd (fun q cAn H1 hK1 hP1 hD1 hS1 => kk q cAn H1 hP1 hD1 hS1 (fun t N e => by cases e; exact hK1))
  show N * 4 ≤ 536870912
  omega
theorem q_x_newl {sc : Option (Nat × (Nat → Int32))} {i pc : Nat} {ls : List (Nat × Value)} {st : List Value} {h h2 : q_H} {r : Option Value} {n : Int32} (N : Nat) (hn : ¬ n < 0) (hN : n.toNatClampNeg = N) (hNb : N ≤ 100000)
    (hd : decode (q_cB i) pc = .ok (.newarray .long, 2)) (E : q_Ex sc i (pc + 2) ls (.ref (h.1.length + 1) :: st) (q_al h (.inr (1, N))) r h2) : q_Ex sc i pc ls (.int n :: st) h r h2 := by
  refine q_go2 (.inr (1, N)) (fun t N e => by cases e; decide) (fun p l e R s m args below meth c D b base cA H locs cells slots lsA Q C hR hS hb hc1 hs1 kk => ?_) E
  refine va_newa (atype := .long) (D := D) (cl := q_cl) (tys := []) (A := fun q => base ≤ q) (ty := .long) (a0 := (N, .inr (.inl (fun _ => 0)))) C.1 C.2.1 (C.2.2.2.2.2.1 _ q_arw.2) rfl hR.2.2.1 hR.1 (q_D b base cA h) hS (fun q hq => Nat.le_trans hb hq) (fun cA => rfl) hn hN ?_ hc1 hs1 hd (fun q cAn H1 hK1 hP1 hD1 hS1 => kk q cAn H1 hP1 hD1 hS1 (fun t N e => by cases e; exact hK1))
  show N * 8 ≤ 536870912
  omega
theorem q_x_newq {sc : Option (Nat × (Nat → Int32))} {i pc : Nat} {ls : List (Nat × Value)} {st : List Value} {h h2 : q_H} {r : Option Value} {n : Int32} {idx : Nat} (N : Nat) (hw : q_nw (q_mC i) idx 1 = true) (hn : ¬ n < 0) (hN : n.toNatClampNeg = N) (hNb : N ≤ 100000)
    (hd : decode (q_cB i) pc = .ok (.anewarray idx, 3)) (E : q_Ex sc i (pc + 3) ls (.ref (h.1.length + 1) :: st) (q_al h (.inr (2, N))) r h2) : q_Ex sc i pc ls (.int n :: st) h r h2 := by
  obtain ⟨hci, w1, w2, w3⟩ := q_nw_at hw
  refine q_go2 (.inr (2, N)) (fun t N e => by cases e; decide) (fun p l e R s m args below meth c D b base cA H locs cells slots lsA Q C hR hS hb hc1 hs1 kk => ?_) E
  exact va_newq (D := D) (cl := q_cl) (tys := []) (A := fun q => base ≤ q) (C := "RootForms$Form") C.1 C.2.1 C.2.2.2.2.1 (C.2.2.2.2.2.1 _ w1) hR.2.2.2.2.2 hR.2.2.1 hR.1 (q_D b base cA h) hS (fun q hq => Nat.le_trans hb hq) hn hN (by omega) hc1 hs1 hd (fun q cAn H1 hK1 hP1 hD1 hS1 => kk q cAn H1 hP1 hD1 hS1 (fun t N e => by cases e; exact hK1))
end
section
/-! straight stretches of code, reckoned: q_stp one instruction, q_run a list of them (written by wip/whole/gen8.py) -/
abbrev q_I : Type := Instr × Nat × Nat × Nat × Int32 × Int64
def q_ln (x : Instr) : Nat := match x with
  | .iload _ => 2
  | .lload _ => 2
  | .aload _ => 2
  | .istore _ => 2
  | .lstore _ => 2
  | .astore _ => 2
  | .bipush _ => 2
  | .ldc _ => 2
  | .sipush _ => 3
  | .ldc_w _ => 3
  | .ldc2_w _ => 3
  | .iinc _ _ => 3
  | .getfield _ => 3
  | .putfield _ => 3
  | _ => 1
def q_kiok (r : Nat × Nat × Int32 × Nat) : Bool := decide (lw_tbl[r.2.2.2]? = some (.constant (q_cn r.1) r.2.1 r.2.2.1)) && goodWord (.constant (q_cn r.1) r.2.1 r.2.2.1)
theorem q_kil_ok : q_kil.all q_kiok = true := by decide +kernel
def q_klok (r : Nat × Nat × Int64 × Nat) : Bool := decide (lw_tbl[r.2.2.2]? = some (.constantLong (q_cn r.1) r.2.1 r.2.2.1)) && goodWord (.constantLong (q_cn r.1) r.2.1 r.2.2.1)
theorem q_kll_ok : q_kll.all q_klok = true := by decide +kernel
def q_ki (c idx : Nat) (v : Int32) : Bool := q_kil.any (fun r => r.1 == c && r.2.1 == idx && decide (r.2.2.1 = v))
def q_kl (c idx : Nat) (v : Int64) : Bool := q_kll.any (fun r => r.1 == c && r.2.1 == idx && decide (r.2.2.1 = v))
theorem q_ki_at {c idx : Nat} {v : Int32} (h : q_ki c idx v = true) : Cond.constant (q_cn c) idx v ∈ q_tbl := by
  obtain ⟨r, hr, h2⟩ := List.any_eq_true.mp h
  simp only [Bool.and_eq_true, beq_iff_eq, decide_eq_true_eq] at h2
  obtain ⟨⟨e1, e2⟩, e3⟩ := h2
  have h1 := List.all_eq_true.mp q_kil_ok r hr
  simp only [q_kiok, Bool.and_eq_true, decide_eq_true_eq] at h1
  rw [e1, e2, e3] at h1
  exact q_tbl_of _ h1.1 h1.2
theorem q_kl_at {c idx : Nat} {v : Int64} (h : q_kl c idx v = true) : Cond.constantLong (q_cn c) idx v ∈ q_tbl := by
  obtain ⟨r, hr, h2⟩ := List.any_eq_true.mp h
  simp only [Bool.and_eq_true, beq_iff_eq, decide_eq_true_eq] at h2
  obtain ⟨⟨e1, e2⟩, e3⟩ := h2
  have h1 := List.all_eq_true.mp q_kll_ok r hr
  simp only [q_klok, Bool.and_eq_true, decide_eq_true_eq] at h1
  rw [e1, e2, e3] at h1
  exact q_tbl_of _ h1.1 h1.2
def q_sid (i : Nat) (x : q_I) : Bool := match x with
  | (.iconst n, _, _, _, c, _) => decide (Int32.ofInt n = c)
  | (.bipush n, _, _, _, c, _) => decide ((Int8.ofInt n).toInt32 = c)
  | (.sipush n, _, _, _, c, _) => decide ((Int16.ofInt n).toInt32 = c)
  | (.lconst n, _, _, _, _, c) => decide (Int64.ofNat n.val = c)
  | (.ldc idx, _, _, _, c, _) => q_ki (q_mC i) idx c
  | (.ldc_w idx, _, _, _, c, _) => q_ki (q_mC i) idx c
  | (.ldc2_w idx, _, _, _, _, c) => q_kl (q_mC i) idx c
  | (.istore k, _) => decide (k < q_mL i)
  | (.astore k, _) => decide (k < q_mL i)
  | (.lstore k, _) => decide (k + 1 < q_mL i)
  | (.istore_n k, _) => decide (k.val < q_mL i)
  | (.astore_n k, _) => decide (k.val < q_mL i)
  | (.lstore_n k, _) => decide (k.val + 1 < q_mL i)
  | (.iinc k n, _, _, _, c, _) => decide (k < q_mL i) && decide (Int32.ofInt n = c)
  | (.getfield idx, _, ci, k, _, _) => q_fd (q_mC i) idx ci k
  | (.putfield idx, _, ci, k, _, _) => q_fd (q_mC i) idx ci k && (decide ((q_tt ci k).2.2.2 = false) || (decide ((q_tt ci k).2.2.2 = true) && decide ((q_mY i).name = "<init>") && decide ((q_tt ci k).1 = q_cn (q_mC i))))
  | _ => true
def q_ok (i pc : Nat) (x : q_I) : Bool := decide (decode (q_cB i) pc = .ok (x.1, q_ln x.1)) && q_sid i x
def q_arr (h : q_H) (n t : Nat) (a : Int32) : Prop := ∃ N, q_kd h n = some (.inr (t, N)) ∧ vp_in a N
abbrev q_S : Type := List (Nat × Value) × List Value × q_H × Prop
def q_s_aconst_null (k1 : Nat) (ci k : Nat) (c1 : Int32) (c2 : Int64) (ls : List (Nat × Value)) (st : List Value) (h : q_H) : Option q_S := match st with
  | st => some (ls, .null :: st, h, True)
theorem q_k_aconst_null {sc : Option (Nat × (Nat → Int32))} {i pc ci k : Nat} {c1 : Int32} {c2 : Int64} {ls ls2 : List (Nat × Value)} {st st2 : List Value} {h h2 hh : q_H} {ob : Prop} {r : Option Value} (hd : decode (q_cB i) pc = .ok (.aconst_null, 1)) (hs : q_s_aconst_null 0 ci k c1 c2 ls st h = some (ls2, st2, h2, ob)) (hob : ob) (E : q_Ex sc i (pc + 1) ls2 st2 h2 r hh) : q_Ex sc i pc ls st h r hh := by
  unfold q_s_aconst_null at hs
  cases hs
  exact q_x_null hd E
def q_s_iconst (k1 : Nat) (ci k : Nat) (c1 : Int32) (c2 : Int64) (ls : List (Nat × Value)) (st : List Value) (h : q_H) : Option q_S := match st with
  | st => some (ls, .int c1 :: st, h, True)
theorem q_k_iconst {sc : Option (Nat × (Nat → Int32))} {i pc ci k : Nat} {c1 : Int32} {c2 : Int64} {ls ls2 : List (Nat × Value)} {st st2 : List Value} {h h2 hh : q_H} {ob : Prop} {r : Option Value} {n : Int} (hd : decode (q_cB i) pc = .ok (.iconst n, 1)) (hside : Int32.ofInt n = c1) (hs : q_s_iconst 0 ci k c1 c2 ls st h = some (ls2, st2, h2, ob)) (hob : ob) (E : q_Ex sc i (pc + 1) ls2 st2 h2 r hh) : q_Ex sc i pc ls st h r hh := by
  unfold q_s_iconst at hs
  cases hs
  exact q_x_iconst hside hd E
def q_s_bipush (k1 : Nat) (ci k : Nat) (c1 : Int32) (c2 : Int64) (ls : List (Nat × Value)) (st : List Value) (h : q_H) : Option q_S := match st with
  | st => some (ls, .int c1 :: st, h, True)
theorem q_k_bipush {sc : Option (Nat × (Nat → Int32))} {i pc ci k : Nat} {c1 : Int32} {c2 : Int64} {ls ls2 : List (Nat × Value)} {st st2 : List Value} {h h2 hh : q_H} {ob : Prop} {r : Option Value} {n : Int} (hd : decode (q_cB i) pc = .ok (.bipush n, 2)) (hside : (Int8.ofInt n).toInt32 = c1) (hs : q_s_bipush 0 ci k c1 c2 ls st h = some (ls2, st2, h2, ob)) (hob : ob) (E : q_Ex sc i (pc + 2) ls2 st2 h2 r hh) : q_Ex sc i pc ls st h r hh := by
  unfold q_s_bipush at hs
  cases hs
  exact q_x_bipush hside hd E
def q_s_sipush (k1 : Nat) (ci k : Nat) (c1 : Int32) (c2 : Int64) (ls : List (Nat × Value)) (st : List Value) (h : q_H) : Option q_S := match st with
  | st => some (ls, .int c1 :: st, h, True)
theorem q_k_sipush {sc : Option (Nat × (Nat → Int32))} {i pc ci k : Nat} {c1 : Int32} {c2 : Int64} {ls ls2 : List (Nat × Value)} {st st2 : List Value} {h h2 hh : q_H} {ob : Prop} {r : Option Value} {n : Int} (hd : decode (q_cB i) pc = .ok (.sipush n, 3)) (hside : (Int16.ofInt n).toInt32 = c1) (hs : q_s_sipush 0 ci k c1 c2 ls st h = some (ls2, st2, h2, ob)) (hob : ob) (E : q_Ex sc i (pc + 3) ls2 st2 h2 r hh) : q_Ex sc i pc ls st h r hh := by
  unfold q_s_sipush at hs
  cases hs
  exact q_x_sipush hside hd E
def q_s_ldc (k1 : Nat) (ci k : Nat) (c1 : Int32) (c2 : Int64) (ls : List (Nat × Value)) (st : List Value) (h : q_H) : Option q_S := match st with
  | st => some (ls, .int c1 :: st, h, True)
theorem q_k_ldc {sc : Option (Nat × (Nat → Int32))} {i pc ci k : Nat} {c1 : Int32} {c2 : Int64} {ls ls2 : List (Nat × Value)} {st st2 : List Value} {h h2 hh : q_H} {ob : Prop} {r : Option Value} {n : Nat} (hd : decode (q_cB i) pc = .ok (.ldc n, 2)) (hside : q_ki (q_mC i) n c1 = true) (hs : q_s_ldc 0 ci k c1 c2 ls st h = some (ls2, st2, h2, ob)) (hob : ob) (E : q_Ex sc i (pc + 2) ls2 st2 h2 r hh) : q_Ex sc i pc ls st h r hh := by
  unfold q_s_ldc at hs
  cases hs
  exact q_x_ldc (q_ki_at hside) hd E
def q_s_ldc_w (k1 : Nat) (ci k : Nat) (c1 : Int32) (c2 : Int64) (ls : List (Nat × Value)) (st : List Value) (h : q_H) : Option q_S := match st with
  | st => some (ls, .int c1 :: st, h, True)
theorem q_k_ldc_w {sc : Option (Nat × (Nat → Int32))} {i pc ci k : Nat} {c1 : Int32} {c2 : Int64} {ls ls2 : List (Nat × Value)} {st st2 : List Value} {h h2 hh : q_H} {ob : Prop} {r : Option Value} {n : Nat} (hd : decode (q_cB i) pc = .ok (.ldc_w n, 3)) (hside : q_ki (q_mC i) n c1 = true) (hs : q_s_ldc_w 0 ci k c1 c2 ls st h = some (ls2, st2, h2, ob)) (hob : ob) (E : q_Ex sc i (pc + 3) ls2 st2 h2 r hh) : q_Ex sc i pc ls st h r hh := by
  unfold q_s_ldc_w at hs
  cases hs
  exact q_x_ldcw (q_ki_at hside) hd E
def q_s_lconst (k1 : Nat) (ci k : Nat) (c1 : Int32) (c2 : Int64) (ls : List (Nat × Value)) (st : List Value) (h : q_H) : Option q_S := match st with
  | st => some (ls, .long c2 :: st, h, True)
theorem q_k_lconst {sc : Option (Nat × (Nat → Int32))} {i pc ci k : Nat} {c1 : Int32} {c2 : Int64} {ls ls2 : List (Nat × Value)} {st st2 : List Value} {h h2 hh : q_H} {ob : Prop} {r : Option Value} {n : Fin 2} (hd : decode (q_cB i) pc = .ok (.lconst n, 1)) (hside : Int64.ofNat n.val = c2) (hs : q_s_lconst 0 ci k c1 c2 ls st h = some (ls2, st2, h2, ob)) (hob : ob) (E : q_Ex sc i (pc + 1) ls2 st2 h2 r hh) : q_Ex sc i pc ls st h r hh := by
  unfold q_s_lconst at hs
  cases hs
  exact q_x_lconst hside hd E
def q_s_ldc2_w (k1 : Nat) (ci k : Nat) (c1 : Int32) (c2 : Int64) (ls : List (Nat × Value)) (st : List Value) (h : q_H) : Option q_S := match st with
  | st => some (ls, .long c2 :: st, h, True)
theorem q_k_ldc2_w {sc : Option (Nat × (Nat → Int32))} {i pc ci k : Nat} {c1 : Int32} {c2 : Int64} {ls ls2 : List (Nat × Value)} {st st2 : List Value} {h h2 hh : q_H} {ob : Prop} {r : Option Value} {n : Nat} (hd : decode (q_cB i) pc = .ok (.ldc2_w n, 3)) (hside : q_kl (q_mC i) n c2 = true) (hs : q_s_ldc2_w 0 ci k c1 c2 ls st h = some (ls2, st2, h2, ob)) (hob : ob) (E : q_Ex sc i (pc + 3) ls2 st2 h2 r hh) : q_Ex sc i pc ls st h r hh := by
  unfold q_s_ldc2_w at hs
  cases hs
  exact q_x_ldc2 (q_kl_at hside) hd E
def q_s_iload (k1 : Nat) (ci k : Nat) (c1 : Int32) (c2 : Int64) (ls : List (Nat × Value)) (st : List Value) (h : q_H) : Option q_S := match st with
  | st => match q_lk ls k1 with
    | some (.int v) => some (ls, .int v :: st, h, True)
    | _ => none
theorem q_k_iload {sc : Option (Nat × (Nat → Int32))} {i pc ci k : Nat} {c1 : Int32} {c2 : Int64} {ls ls2 : List (Nat × Value)} {st st2 : List Value} {h h2 hh : q_H} {ob : Prop} {r : Option Value} {n : Nat} (hd : decode (q_cB i) pc = .ok (.iload n, 2)) (hs : q_s_iload n ci k c1 c2 ls st h = some (ls2, st2, h2, ob)) (hob : ob) (E : q_Ex sc i (pc + 2) ls2 st2 h2 r hh) : q_Ex sc i pc ls st h r hh := by
  unfold q_s_iload at hs
  split at hs
  · cases hs
    exact q_x_iload (by assumption) hd E
  · cases hs
def q_s_iload_n (k1 : Nat) (ci k : Nat) (c1 : Int32) (c2 : Int64) (ls : List (Nat × Value)) (st : List Value) (h : q_H) : Option q_S := match st with
  | st => match q_lk ls k1 with
    | some (.int v) => some (ls, .int v :: st, h, True)
    | _ => none
theorem q_k_iload_n {sc : Option (Nat × (Nat → Int32))} {i pc ci k : Nat} {c1 : Int32} {c2 : Int64} {ls ls2 : List (Nat × Value)} {st st2 : List Value} {h h2 hh : q_H} {ob : Prop} {r : Option Value} {n : Fin 4} (hd : decode (q_cB i) pc = .ok (.iload_n n, 1)) (hs : q_s_iload_n n.val ci k c1 c2 ls st h = some (ls2, st2, h2, ob)) (hob : ob) (E : q_Ex sc i (pc + 1) ls2 st2 h2 r hh) : q_Ex sc i pc ls st h r hh := by
  unfold q_s_iload_n at hs
  split at hs
  · cases hs
    exact q_x_iload_n (by assumption) hd E
  · cases hs
def q_s_lload (k1 : Nat) (ci k : Nat) (c1 : Int32) (c2 : Int64) (ls : List (Nat × Value)) (st : List Value) (h : q_H) : Option q_S := match st with
  | st => match q_lk ls k1 with
    | some (.long v) => some (ls, .long v :: st, h, True)
    | _ => none
theorem q_k_lload {sc : Option (Nat × (Nat → Int32))} {i pc ci k : Nat} {c1 : Int32} {c2 : Int64} {ls ls2 : List (Nat × Value)} {st st2 : List Value} {h h2 hh : q_H} {ob : Prop} {r : Option Value} {n : Nat} (hd : decode (q_cB i) pc = .ok (.lload n, 2)) (hs : q_s_lload n ci k c1 c2 ls st h = some (ls2, st2, h2, ob)) (hob : ob) (E : q_Ex sc i (pc + 2) ls2 st2 h2 r hh) : q_Ex sc i pc ls st h r hh := by
  unfold q_s_lload at hs
  split at hs
  · cases hs
    exact q_x_lload (by assumption) hd E
  · cases hs
def q_s_lload_n (k1 : Nat) (ci k : Nat) (c1 : Int32) (c2 : Int64) (ls : List (Nat × Value)) (st : List Value) (h : q_H) : Option q_S := match st with
  | st => match q_lk ls k1 with
    | some (.long v) => some (ls, .long v :: st, h, True)
    | _ => none
theorem q_k_lload_n {sc : Option (Nat × (Nat → Int32))} {i pc ci k : Nat} {c1 : Int32} {c2 : Int64} {ls ls2 : List (Nat × Value)} {st st2 : List Value} {h h2 hh : q_H} {ob : Prop} {r : Option Value} {n : Fin 4} (hd : decode (q_cB i) pc = .ok (.lload_n n, 1)) (hs : q_s_lload_n n.val ci k c1 c2 ls st h = some (ls2, st2, h2, ob)) (hob : ob) (E : q_Ex sc i (pc + 1) ls2 st2 h2 r hh) : q_Ex sc i pc ls st h r hh := by
  unfold q_s_lload_n at hs
  split at hs
  · cases hs
    exact q_x_lload_n (by assumption) hd E
  · cases hs
def q_s_aload (k1 : Nat) (ci k : Nat) (c1 : Int32) (c2 : Int64) (ls : List (Nat × Value)) (st : List Value) (h : q_H) : Option q_S := match st with
  | st => match q_lk ls k1 with
    | some (.ref v) => some (ls, .ref v :: st, h, True)
    | some .null => some (ls, .null :: st, h, True)
    | _ => none
theorem q_k_aload {sc : Option (Nat × (Nat → Int32))} {i pc ci k : Nat} {c1 : Int32} {c2 : Int64} {ls ls2 : List (Nat × Value)} {st st2 : List Value} {h h2 hh : q_H} {ob : Prop} {r : Option Value} {n : Nat} (hd : decode (q_cB i) pc = .ok (.aload n, 2)) (hs : q_s_aload n ci k c1 c2 ls st h = some (ls2, st2, h2, ob)) (hob : ob) (E : q_Ex sc i (pc + 2) ls2 st2 h2 r hh) : q_Ex sc i pc ls st h r hh := by
  unfold q_s_aload at hs
  split at hs
  · cases hs
    exact q_x_aload (by assumption) hd E
  · cases hs
    exact q_x_aloadN (by assumption) hd E
  · cases hs
def q_s_aload_n (k1 : Nat) (ci k : Nat) (c1 : Int32) (c2 : Int64) (ls : List (Nat × Value)) (st : List Value) (h : q_H) : Option q_S := match st with
  | st => match q_lk ls k1 with
    | some (.ref v) => some (ls, .ref v :: st, h, True)
    | some .null => some (ls, .null :: st, h, True)
    | _ => none
theorem q_k_aload_n {sc : Option (Nat × (Nat → Int32))} {i pc ci k : Nat} {c1 : Int32} {c2 : Int64} {ls ls2 : List (Nat × Value)} {st st2 : List Value} {h h2 hh : q_H} {ob : Prop} {r : Option Value} {n : Fin 4} (hd : decode (q_cB i) pc = .ok (.aload_n n, 1)) (hs : q_s_aload_n n.val ci k c1 c2 ls st h = some (ls2, st2, h2, ob)) (hob : ob) (E : q_Ex sc i (pc + 1) ls2 st2 h2 r hh) : q_Ex sc i pc ls st h r hh := by
  unfold q_s_aload_n at hs
  split at hs
  · cases hs
    exact q_x_aload_n (by assumption) hd E
  · cases hs
    exact q_x_aload_nN (by assumption) hd E
  · cases hs
def q_s_istore (k1 : Nat) (ci k : Nat) (c1 : Int32) (c2 : Int64) (ls : List (Nat × Value)) (st : List Value) (h : q_H) : Option q_S := match st with
  | .int v :: st => some (q_st1 k1 (.int v) ls, st, h, True)
  | _ => none
theorem q_k_istore {sc : Option (Nat × (Nat → Int32))} {i pc ci k : Nat} {c1 : Int32} {c2 : Int64} {ls ls2 : List (Nat × Value)} {st st2 : List Value} {h h2 hh : q_H} {ob : Prop} {r : Option Value} {n : Nat} (hd : decode (q_cB i) pc = .ok (.istore n, 2)) (hside : n < q_mL i) (hs : q_s_istore n ci k c1 c2 ls st h = some (ls2, st2, h2, ob)) (hob : ob) (E : q_Ex sc i (pc + 2) ls2 st2 h2 r hh) : q_Ex sc i pc ls st h r hh := by
  unfold q_s_istore at hs
  split at hs
  · cases hs
    exact q_x_istore hside hd E
  · cases hs
def q_s_istore_n (k1 : Nat) (ci k : Nat) (c1 : Int32) (c2 : Int64) (ls : List (Nat × Value)) (st : List Value) (h : q_H) : Option q_S := match st with
  | .int v :: st => some (q_st1 k1 (.int v) ls, st, h, True)
  | _ => none
theorem q_k_istore_n {sc : Option (Nat × (Nat → Int32))} {i pc ci k : Nat} {c1 : Int32} {c2 : Int64} {ls ls2 : List (Nat × Value)} {st st2 : List Value} {h h2 hh : q_H} {ob : Prop} {r : Option Value} {n : Fin 4} (hd : decode (q_cB i) pc = .ok (.istore_n n, 1)) (hside : n.val < q_mL i) (hs : q_s_istore_n n.val ci k c1 c2 ls st h = some (ls2, st2, h2, ob)) (hob : ob) (E : q_Ex sc i (pc + 1) ls2 st2 h2 r hh) : q_Ex sc i pc ls st h r hh := by
  unfold q_s_istore_n at hs
  split at hs
  · cases hs
    exact q_x_istore_n hside hd E
  · cases hs
def q_s_lstore (k1 : Nat) (ci k : Nat) (c1 : Int32) (c2 : Int64) (ls : List (Nat × Value)) (st : List Value) (h : q_H) : Option q_S := match st with
  | .long v :: st => some (q_st2 k1 (.long v) ls, st, h, True)
  | _ => none
theorem q_k_lstore {sc : Option (Nat × (Nat → Int32))} {i pc ci k : Nat} {c1 : Int32} {c2 : Int64} {ls ls2 : List (Nat × Value)} {st st2 : List Value} {h h2 hh : q_H} {ob : Prop} {r : Option Value} {n : Nat} (hd : decode (q_cB i) pc = .ok (.lstore n, 2)) (hside : n + 1 < q_mL i) (hs : q_s_lstore n ci k c1 c2 ls st h = some (ls2, st2, h2, ob)) (hob : ob) (E : q_Ex sc i (pc + 2) ls2 st2 h2 r hh) : q_Ex sc i pc ls st h r hh := by
  unfold q_s_lstore at hs
  split at hs
  · cases hs
    exact q_x_lstore hside hd E
  · cases hs
def q_s_lstore_n (k1 : Nat) (ci k : Nat) (c1 : Int32) (c2 : Int64) (ls : List (Nat × Value)) (st : List Value) (h : q_H) : Option q_S := match st with
  | .long v :: st => some (q_st2 k1 (.long v) ls, st, h, True)
  | _ => none
theorem q_k_lstore_n {sc : Option (Nat × (Nat → Int32))} {i pc ci k : Nat} {c1 : Int32} {c2 : Int64} {ls ls2 : List (Nat × Value)} {st st2 : List Value} {h h2 hh : q_H} {ob : Prop} {r : Option Value} {n : Fin 4} (hd : decode (q_cB i) pc = .ok (.lstore_n n, 1)) (hside : n.val + 1 < q_mL i) (hs : q_s_lstore_n n.val ci k c1 c2 ls st h = some (ls2, st2, h2, ob)) (hob : ob) (E : q_Ex sc i (pc + 1) ls2 st2 h2 r hh) : q_Ex sc i pc ls st h r hh := by
  unfold q_s_lstore_n at hs
  split at hs
  · cases hs
    exact q_x_lstore_n hside hd E
  · cases hs
def q_s_astore (k1 : Nat) (ci k : Nat) (c1 : Int32) (c2 : Int64) (ls : List (Nat × Value)) (st : List Value) (h : q_H) : Option q_S := match st with
  | .ref v :: st => some (q_st1 k1 (.ref v) ls, st, h, True)
  | .null :: st => some (q_st1 k1 .null ls, st, h, True)
  | _ => none
theorem q_k_astore {sc : Option (Nat × (Nat → Int32))} {i pc ci k : Nat} {c1 : Int32} {c2 : Int64} {ls ls2 : List (Nat × Value)} {st st2 : List Value} {h h2 hh : q_H} {ob : Prop} {r : Option Value} {n : Nat} (hd : decode (q_cB i) pc = .ok (.astore n, 2)) (hside : n < q_mL i) (hs : q_s_astore n ci k c1 c2 ls st h = some (ls2, st2, h2, ob)) (hob : ob) (E : q_Ex sc i (pc + 2) ls2 st2 h2 r hh) : q_Ex sc i pc ls st h r hh := by
  unfold q_s_astore at hs
  split at hs
  · cases hs
    exact q_x_astore hside hd E
  · cases hs
    exact q_x_astoreN hside hd E
  · cases hs
def q_s_astore_n (k1 : Nat) (ci k : Nat) (c1 : Int32) (c2 : Int64) (ls : List (Nat × Value)) (st : List Value) (h : q_H) : Option q_S := match st with
  | .ref v :: st => some (q_st1 k1 (.ref v) ls, st, h, True)
  | .null :: st => some (q_st1 k1 .null ls, st, h, True)
  | _ => none
theorem q_k_astore_n {sc : Option (Nat × (Nat → Int32))} {i pc ci k : Nat} {c1 : Int32} {c2 : Int64} {ls ls2 : List (Nat × Value)} {st st2 : List Value} {h h2 hh : q_H} {ob : Prop} {r : Option Value} {n : Fin 4} (hd : decode (q_cB i) pc = .ok (.astore_n n, 1)) (hside : n.val < q_mL i) (hs : q_s_astore_n n.val ci k c1 c2 ls st h = some (ls2, st2, h2, ob)) (hob : ob) (E : q_Ex sc i (pc + 1) ls2 st2 h2 r hh) : q_Ex sc i pc ls st h r hh := by
  unfold q_s_astore_n at hs
  split at hs
  · cases hs
    exact q_x_astore_n hside hd E
  · cases hs
    exact q_x_astore_nN hside hd E
  · cases hs
def q_s_iinc (k1 : Nat) (ci k : Nat) (c1 : Int32) (c2 : Int64) (ls : List (Nat × Value)) (st : List Value) (h : q_H) : Option q_S := match st with
  | st => match q_lk ls k1 with
    | some (.int v) => some (q_st1 k1 (.int (v + c1)) ls, st, h, True)
    | _ => none
theorem q_k_iinc {sc : Option (Nat × (Nat → Int32))} {i pc ci k : Nat} {c1 : Int32} {c2 : Int64} {ls ls2 : List (Nat × Value)} {st st2 : List Value} {h h2 hh : q_H} {ob : Prop} {r : Option Value} {n : Nat} {n2 : Int} (hd : decode (q_cB i) pc = .ok (.iinc n n2, 3)) (hside : n < q_mL i ∧ Int32.ofInt n2 = c1) (hs : q_s_iinc n ci k c1 c2 ls st h = some (ls2, st2, h2, ob)) (hob : ob) (E : q_Ex sc i (pc + 3) ls2 st2 h2 r hh) : q_Ex sc i pc ls st h r hh := by
  unfold q_s_iinc at hs
  split at hs
  · cases hs
    exact q_x_iinc (by assumption) hside.2 hside.1 hd E
  · cases hs
def q_s_iadd (k1 : Nat) (ci k : Nat) (c1 : Int32) (c2 : Int64) (ls : List (Nat × Value)) (st : List Value) (h : q_H) : Option q_S := match st with
  | .int y :: .int x :: st => some (ls, .int (x + y) :: st, h, True)
  | _ => none
theorem q_k_iadd {sc : Option (Nat × (Nat → Int32))} {i pc ci k : Nat} {c1 : Int32} {c2 : Int64} {ls ls2 : List (Nat × Value)} {st st2 : List Value} {h h2 hh : q_H} {ob : Prop} {r : Option Value} (hd : decode (q_cB i) pc = .ok (.iadd, 1)) (hs : q_s_iadd 0 ci k c1 c2 ls st h = some (ls2, st2, h2, ob)) (hob : ob) (E : q_Ex sc i (pc + 1) ls2 st2 h2 r hh) : q_Ex sc i pc ls st h r hh := by
  unfold q_s_iadd at hs
  split at hs
  · cases hs
    exact q_x_iadd hd E
  · cases hs
def q_s_isub (k1 : Nat) (ci k : Nat) (c1 : Int32) (c2 : Int64) (ls : List (Nat × Value)) (st : List Value) (h : q_H) : Option q_S := match st with
  | .int y :: .int x :: st => some (ls, .int (x - y) :: st, h, True)
  | _ => none
theorem q_k_isub {sc : Option (Nat × (Nat → Int32))} {i pc ci k : Nat} {c1 : Int32} {c2 : Int64} {ls ls2 : List (Nat × Value)} {st st2 : List Value} {h h2 hh : q_H} {ob : Prop} {r : Option Value} (hd : decode (q_cB i) pc = .ok (.isub, 1)) (hs : q_s_isub 0 ci k c1 c2 ls st h = some (ls2, st2, h2, ob)) (hob : ob) (E : q_Ex sc i (pc + 1) ls2 st2 h2 r hh) : q_Ex sc i pc ls st h r hh := by
  unfold q_s_isub at hs
  split at hs
  · cases hs
    exact q_x_isub hd E
  · cases hs
def q_s_imul (k1 : Nat) (ci k : Nat) (c1 : Int32) (c2 : Int64) (ls : List (Nat × Value)) (st : List Value) (h : q_H) : Option q_S := match st with
  | .int y :: .int x :: st => some (ls, .int (x * y) :: st, h, True)
  | _ => none
theorem q_k_imul {sc : Option (Nat × (Nat → Int32))} {i pc ci k : Nat} {c1 : Int32} {c2 : Int64} {ls ls2 : List (Nat × Value)} {st st2 : List Value} {h h2 hh : q_H} {ob : Prop} {r : Option Value} (hd : decode (q_cB i) pc = .ok (.imul, 1)) (hs : q_s_imul 0 ci k c1 c2 ls st h = some (ls2, st2, h2, ob)) (hob : ob) (E : q_Ex sc i (pc + 1) ls2 st2 h2 r hh) : q_Ex sc i pc ls st h r hh := by
  unfold q_s_imul at hs
  split at hs
  · cases hs
    exact q_x_imul hd E
  · cases hs
def q_s_iand (k1 : Nat) (ci k : Nat) (c1 : Int32) (c2 : Int64) (ls : List (Nat × Value)) (st : List Value) (h : q_H) : Option q_S := match st with
  | .int y :: .int x :: st => some (ls, .int (x &&& y) :: st, h, True)
  | _ => none
theorem q_k_iand {sc : Option (Nat × (Nat → Int32))} {i pc ci k : Nat} {c1 : Int32} {c2 : Int64} {ls ls2 : List (Nat × Value)} {st st2 : List Value} {h h2 hh : q_H} {ob : Prop} {r : Option Value} (hd : decode (q_cB i) pc = .ok (.iand, 1)) (hs : q_s_iand 0 ci k c1 c2 ls st h = some (ls2, st2, h2, ob)) (hob : ob) (E : q_Ex sc i (pc + 1) ls2 st2 h2 r hh) : q_Ex sc i pc ls st h r hh := by
  unfold q_s_iand at hs
  split at hs
  · cases hs
    exact q_x_iand hd E
  · cases hs
def q_s_ixor (k1 : Nat) (ci k : Nat) (c1 : Int32) (c2 : Int64) (ls : List (Nat × Value)) (st : List Value) (h : q_H) : Option q_S := match st with
  | .int y :: .int x :: st => some (ls, .int (x ^^^ y) :: st, h, True)
  | _ => none
theorem q_k_ixor {sc : Option (Nat × (Nat → Int32))} {i pc ci k : Nat} {c1 : Int32} {c2 : Int64} {ls ls2 : List (Nat × Value)} {st st2 : List Value} {h h2 hh : q_H} {ob : Prop} {r : Option Value} (hd : decode (q_cB i) pc = .ok (.ixor, 1)) (hs : q_s_ixor 0 ci k c1 c2 ls st h = some (ls2, st2, h2, ob)) (hob : ob) (E : q_Ex sc i (pc + 1) ls2 st2 h2 r hh) : q_Ex sc i pc ls st h r hh := by
  unfold q_s_ixor at hs
  split at hs
  · cases hs
    exact q_x_ixor hd E
  · cases hs
def q_s_ladd (k1 : Nat) (ci k : Nat) (c1 : Int32) (c2 : Int64) (ls : List (Nat × Value)) (st : List Value) (h : q_H) : Option q_S := match st with
  | .long y :: .long x :: st => some (ls, .long (x + y) :: st, h, True)
  | _ => none
theorem q_k_ladd {sc : Option (Nat × (Nat → Int32))} {i pc ci k : Nat} {c1 : Int32} {c2 : Int64} {ls ls2 : List (Nat × Value)} {st st2 : List Value} {h h2 hh : q_H} {ob : Prop} {r : Option Value} (hd : decode (q_cB i) pc = .ok (.ladd, 1)) (hs : q_s_ladd 0 ci k c1 c2 ls st h = some (ls2, st2, h2, ob)) (hob : ob) (E : q_Ex sc i (pc + 1) ls2 st2 h2 r hh) : q_Ex sc i pc ls st h r hh := by
  unfold q_s_ladd at hs
  split at hs
  · cases hs
    exact q_x_ladd hd E
  · cases hs
def q_s_lsub (k1 : Nat) (ci k : Nat) (c1 : Int32) (c2 : Int64) (ls : List (Nat × Value)) (st : List Value) (h : q_H) : Option q_S := match st with
  | .long y :: .long x :: st => some (ls, .long (x - y) :: st, h, True)
  | _ => none
theorem q_k_lsub {sc : Option (Nat × (Nat → Int32))} {i pc ci k : Nat} {c1 : Int32} {c2 : Int64} {ls ls2 : List (Nat × Value)} {st st2 : List Value} {h h2 hh : q_H} {ob : Prop} {r : Option Value} (hd : decode (q_cB i) pc = .ok (.lsub, 1)) (hs : q_s_lsub 0 ci k c1 c2 ls st h = some (ls2, st2, h2, ob)) (hob : ob) (E : q_Ex sc i (pc + 1) ls2 st2 h2 r hh) : q_Ex sc i pc ls st h r hh := by
  unfold q_s_lsub at hs
  split at hs
  · cases hs
    exact q_x_lsub hd E
  · cases hs
def q_s_lmul (k1 : Nat) (ci k : Nat) (c1 : Int32) (c2 : Int64) (ls : List (Nat × Value)) (st : List Value) (h : q_H) : Option q_S := match st with
  | .long y :: .long x :: st => some (ls, .long (x * y) :: st, h, True)
  | _ => none
theorem q_k_lmul {sc : Option (Nat × (Nat → Int32))} {i pc ci k : Nat} {c1 : Int32} {c2 : Int64} {ls ls2 : List (Nat × Value)} {st st2 : List Value} {h h2 hh : q_H} {ob : Prop} {r : Option Value} (hd : decode (q_cB i) pc = .ok (.lmul, 1)) (hs : q_s_lmul 0 ci k c1 c2 ls st h = some (ls2, st2, h2, ob)) (hob : ob) (E : q_Ex sc i (pc + 1) ls2 st2 h2 r hh) : q_Ex sc i pc ls st h r hh := by
  unfold q_s_lmul at hs
  split at hs
  · cases hs
    exact q_x_lmul hd E
  · cases hs
def q_s_lxor (k1 : Nat) (ci k : Nat) (c1 : Int32) (c2 : Int64) (ls : List (Nat × Value)) (st : List Value) (h : q_H) : Option q_S := match st with
  | .long y :: .long x :: st => some (ls, .long (x ^^^ y) :: st, h, True)
  | _ => none
theorem q_k_lxor {sc : Option (Nat × (Nat → Int32))} {i pc ci k : Nat} {c1 : Int32} {c2 : Int64} {ls ls2 : List (Nat × Value)} {st st2 : List Value} {h h2 hh : q_H} {ob : Prop} {r : Option Value} (hd : decode (q_cB i) pc = .ok (.lxor, 1)) (hs : q_s_lxor 0 ci k c1 c2 ls st h = some (ls2, st2, h2, ob)) (hob : ob) (E : q_Ex sc i (pc + 1) ls2 st2 h2 r hh) : q_Ex sc i pc ls st h r hh := by
  unfold q_s_lxor at hs
  split at hs
  · cases hs
    exact q_x_lxor hd E
  · cases hs
def q_s_idiv (k1 : Nat) (ci k : Nat) (c1 : Int32) (c2 : Int64) (ls : List (Nat × Value)) (st : List Value) (h : q_H) : Option q_S := match st with
  | .int y :: .int x :: st => some (ls, .int (x / y) :: st, h, ¬ y = 0)
  | _ => none
theorem q_k_idiv {sc : Option (Nat × (Nat → Int32))} {i pc ci k : Nat} {c1 : Int32} {c2 : Int64} {ls ls2 : List (Nat × Value)} {st st2 : List Value} {h h2 hh : q_H} {ob : Prop} {r : Option Value} (hd : decode (q_cB i) pc = .ok (.idiv, 1)) (hs : q_s_idiv 0 ci k c1 c2 ls st h = some (ls2, st2, h2, ob)) (hob : ob) (E : q_Ex sc i (pc + 1) ls2 st2 h2 r hh) : q_Ex sc i pc ls st h r hh := by
  unfold q_s_idiv at hs
  split at hs
  · cases hs
    exact q_x_idiv hob hd E
  · cases hs
def q_s_irem (k1 : Nat) (ci k : Nat) (c1 : Int32) (c2 : Int64) (ls : List (Nat × Value)) (st : List Value) (h : q_H) : Option q_S := match st with
  | .int y :: .int x :: st => some (ls, .int (x - x / y * y) :: st, h, ¬ y = 0)
  | _ => none
theorem q_k_irem {sc : Option (Nat × (Nat → Int32))} {i pc ci k : Nat} {c1 : Int32} {c2 : Int64} {ls ls2 : List (Nat × Value)} {st st2 : List Value} {h h2 hh : q_H} {ob : Prop} {r : Option Value} (hd : decode (q_cB i) pc = .ok (.irem, 1)) (hs : q_s_irem 0 ci k c1 c2 ls st h = some (ls2, st2, h2, ob)) (hob : ob) (E : q_Ex sc i (pc + 1) ls2 st2 h2 r hh) : q_Ex sc i pc ls st h r hh := by
  unfold q_s_irem at hs
  split at hs
  · cases hs
    exact q_x_irem hob hd E
  · cases hs
def q_s_ldiv (k1 : Nat) (ci k : Nat) (c1 : Int32) (c2 : Int64) (ls : List (Nat × Value)) (st : List Value) (h : q_H) : Option q_S := match st with
  | .long y :: .long x :: st => some (ls, .long (x / y) :: st, h, ¬ y = 0)
  | _ => none
theorem q_k_ldiv {sc : Option (Nat × (Nat → Int32))} {i pc ci k : Nat} {c1 : Int32} {c2 : Int64} {ls ls2 : List (Nat × Value)} {st st2 : List Value} {h h2 hh : q_H} {ob : Prop} {r : Option Value} (hd : decode (q_cB i) pc = .ok (.ldiv, 1)) (hs : q_s_ldiv 0 ci k c1 c2 ls st h = some (ls2, st2, h2, ob)) (hob : ob) (E : q_Ex sc i (pc + 1) ls2 st2 h2 r hh) : q_Ex sc i pc ls st h r hh := by
  unfold q_s_ldiv at hs
  split at hs
  · cases hs
    exact q_x_ldiv hob hd E
  · cases hs
def q_s_lrem (k1 : Nat) (ci k : Nat) (c1 : Int32) (c2 : Int64) (ls : List (Nat × Value)) (st : List Value) (h : q_H) : Option q_S := match st with
  | .long y :: .long x :: st => some (ls, .long (x - x / y * y) :: st, h, ¬ y = 0)
  | _ => none
theorem q_k_lrem {sc : Option (Nat × (Nat → Int32))} {i pc ci k : Nat} {c1 : Int32} {c2 : Int64} {ls ls2 : List (Nat × Value)} {st st2 : List Value} {h h2 hh : q_H} {ob : Prop} {r : Option Value} (hd : decode (q_cB i) pc = .ok (.lrem, 1)) (hs : q_s_lrem 0 ci k c1 c2 ls st h = some (ls2, st2, h2, ob)) (hob : ob) (E : q_Ex sc i (pc + 1) ls2 st2 h2 r hh) : q_Ex sc i pc ls st h r hh := by
  unfold q_s_lrem at hs
  split at hs
  · cases hs
    exact q_x_lrem hob hd E
  · cases hs
def q_s_ineg (k1 : Nat) (ci k : Nat) (c1 : Int32) (c2 : Int64) (ls : List (Nat × Value)) (st : List Value) (h : q_H) : Option q_S := match st with
  | .int x :: st => some (ls, .int (-x) :: st, h, True)
  | _ => none
theorem q_k_ineg {sc : Option (Nat × (Nat → Int32))} {i pc ci k : Nat} {c1 : Int32} {c2 : Int64} {ls ls2 : List (Nat × Value)} {st st2 : List Value} {h h2 hh : q_H} {ob : Prop} {r : Option Value} (hd : decode (q_cB i) pc = .ok (.ineg, 1)) (hs : q_s_ineg 0 ci k c1 c2 ls st h = some (ls2, st2, h2, ob)) (hob : ob) (E : q_Ex sc i (pc + 1) ls2 st2 h2 r hh) : q_Ex sc i pc ls st h r hh := by
  unfold q_s_ineg at hs
  split at hs
  · cases hs
    exact q_x_ineg hd E
  · cases hs
def q_s_lneg (k1 : Nat) (ci k : Nat) (c1 : Int32) (c2 : Int64) (ls : List (Nat × Value)) (st : List Value) (h : q_H) : Option q_S := match st with
  | .long x :: st => some (ls, .long (-x) :: st, h, True)
  | _ => none
theorem q_k_lneg {sc : Option (Nat × (Nat → Int32))} {i pc ci k : Nat} {c1 : Int32} {c2 : Int64} {ls ls2 : List (Nat × Value)} {st st2 : List Value} {h h2 hh : q_H} {ob : Prop} {r : Option Value} (hd : decode (q_cB i) pc = .ok (.lneg, 1)) (hs : q_s_lneg 0 ci k c1 c2 ls st h = some (ls2, st2, h2, ob)) (hob : ob) (E : q_Ex sc i (pc + 1) ls2 st2 h2 r hh) : q_Ex sc i pc ls st h r hh := by
  unfold q_s_lneg at hs
  split at hs
  · cases hs
    exact q_x_lneg hd E
  · cases hs
def q_s_i2l (k1 : Nat) (ci k : Nat) (c1 : Int32) (c2 : Int64) (ls : List (Nat × Value)) (st : List Value) (h : q_H) : Option q_S := match st with
  | .int x :: st => some (ls, .long x.toInt64 :: st, h, True)
  | _ => none
theorem q_k_i2l {sc : Option (Nat × (Nat → Int32))} {i pc ci k : Nat} {c1 : Int32} {c2 : Int64} {ls ls2 : List (Nat × Value)} {st st2 : List Value} {h h2 hh : q_H} {ob : Prop} {r : Option Value} (hd : decode (q_cB i) pc = .ok (.i2l, 1)) (hs : q_s_i2l 0 ci k c1 c2 ls st h = some (ls2, st2, h2, ob)) (hob : ob) (E : q_Ex sc i (pc + 1) ls2 st2 h2 r hh) : q_Ex sc i pc ls st h r hh := by
  unfold q_s_i2l at hs
  split at hs
  · cases hs
    exact q_x_i2l hd E
  · cases hs
def q_s_l2i (k1 : Nat) (ci k : Nat) (c1 : Int32) (c2 : Int64) (ls : List (Nat × Value)) (st : List Value) (h : q_H) : Option q_S := match st with
  | .long x :: st => some (ls, .int x.toInt32 :: st, h, True)
  | _ => none
theorem q_k_l2i {sc : Option (Nat × (Nat → Int32))} {i pc ci k : Nat} {c1 : Int32} {c2 : Int64} {ls ls2 : List (Nat × Value)} {st st2 : List Value} {h h2 hh : q_H} {ob : Prop} {r : Option Value} (hd : decode (q_cB i) pc = .ok (.l2i, 1)) (hs : q_s_l2i 0 ci k c1 c2 ls st h = some (ls2, st2, h2, ob)) (hob : ob) (E : q_Ex sc i (pc + 1) ls2 st2 h2 r hh) : q_Ex sc i pc ls st h r hh := by
  unfold q_s_l2i at hs
  split at hs
  · cases hs
    exact q_x_l2i hd E
  · cases hs
def q_s_lshr (k1 : Nat) (ci k : Nat) (c1 : Int32) (c2 : Int64) (ls : List (Nat × Value)) (st : List Value) (h : q_H) : Option q_S := match st with
  | .int y :: .long x :: st => some (ls, .long (x >>> (y.toInt64 &&& 63)) :: st, h, True)
  | _ => none
theorem q_k_lshr {sc : Option (Nat × (Nat → Int32))} {i pc ci k : Nat} {c1 : Int32} {c2 : Int64} {ls ls2 : List (Nat × Value)} {st st2 : List Value} {h h2 hh : q_H} {ob : Prop} {r : Option Value} (hd : decode (q_cB i) pc = .ok (.lshr, 1)) (hs : q_s_lshr 0 ci k c1 c2 ls st h = some (ls2, st2, h2, ob)) (hob : ob) (E : q_Ex sc i (pc + 1) ls2 st2 h2 r hh) : q_Ex sc i pc ls st h r hh := by
  unfold q_s_lshr at hs
  split at hs
  · cases hs
    exact q_x_lshr hd E
  · cases hs
def q_s_lcmp (k1 : Nat) (ci k : Nat) (c1 : Int32) (c2 : Int64) (ls : List (Nat × Value)) (st : List Value) (h : q_H) : Option q_S := match st with
  | .long y :: .long x :: st => some (ls, .int (lg_cmp x y) :: st, h, True)
  | _ => none
theorem q_k_lcmp {sc : Option (Nat × (Nat → Int32))} {i pc ci k : Nat} {c1 : Int32} {c2 : Int64} {ls ls2 : List (Nat × Value)} {st st2 : List Value} {h h2 hh : q_H} {ob : Prop} {r : Option Value} (hd : decode (q_cB i) pc = .ok (.lcmp, 1)) (hs : q_s_lcmp 0 ci k c1 c2 ls st h = some (ls2, st2, h2, ob)) (hob : ob) (E : q_Ex sc i (pc + 1) ls2 st2 h2 r hh) : q_Ex sc i pc ls st h r hh := by
  unfold q_s_lcmp at hs
  split at hs
  · cases hs
    exact q_x_lcmp hd E
  · cases hs
def q_s_dup (k1 : Nat) (ci k : Nat) (c1 : Int32) (c2 : Int64) (ls : List (Nat × Value)) (st : List Value) (h : q_H) : Option q_S := match st with
  | .int x :: st => some (ls, .int x :: .int x :: st, h, True)
  | .ref x :: st => some (ls, .ref x :: .ref x :: st, h, True)
  | .null :: st => some (ls, .null :: .null :: st, h, True)
  | _ => none
theorem q_k_dup {sc : Option (Nat × (Nat → Int32))} {i pc ci k : Nat} {c1 : Int32} {c2 : Int64} {ls ls2 : List (Nat × Value)} {st st2 : List Value} {h h2 hh : q_H} {ob : Prop} {r : Option Value} (hd : decode (q_cB i) pc = .ok (.dup, 1)) (hs : q_s_dup 0 ci k c1 c2 ls st h = some (ls2, st2, h2, ob)) (hob : ob) (E : q_Ex sc i (pc + 1) ls2 st2 h2 r hh) : q_Ex sc i pc ls st h r hh := by
  unfold q_s_dup at hs
  split at hs
  · cases hs
    exact q_x_dup_int hd E
  · cases hs
    exact q_x_dup_ref hd E
  · cases hs
    exact q_x_dup_nul hd E
  · cases hs
def q_s_pop (k1 : Nat) (ci k : Nat) (c1 : Int32) (c2 : Int64) (ls : List (Nat × Value)) (st : List Value) (h : q_H) : Option q_S := match st with
  | .int x :: st => some (ls, st, h, True)
  | .ref x :: st => some (ls, st, h, True)
  | .null :: st => some (ls, st, h, True)
  | _ => none
theorem q_k_pop {sc : Option (Nat × (Nat → Int32))} {i pc ci k : Nat} {c1 : Int32} {c2 : Int64} {ls ls2 : List (Nat × Value)} {st st2 : List Value} {h h2 hh : q_H} {ob : Prop} {r : Option Value} (hd : decode (q_cB i) pc = .ok (.pop, 1)) (hs : q_s_pop 0 ci k c1 c2 ls st h = some (ls2, st2, h2, ob)) (hob : ob) (E : q_Ex sc i (pc + 1) ls2 st2 h2 r hh) : q_Ex sc i pc ls st h r hh := by
  unfold q_s_pop at hs
  split at hs
  · cases hs
    exact q_x_pop_int hd E
  · cases hs
    exact q_x_pop_ref hd E
  · cases hs
    exact q_x_pop_nul hd E
  · cases hs
def q_s_dup2 (k1 : Nat) (ci k : Nat) (c1 : Int32) (c2 : Int64) (ls : List (Nat × Value)) (st : List Value) (h : q_H) : Option q_S := match st with
  | .int x :: .ref a :: st => some (ls, .int x :: .ref a :: .int x :: .ref a :: st, h, True)
  | .long x :: st => some (ls, .long x :: .long x :: st, h, True)
  | _ => none
theorem q_k_dup2 {sc : Option (Nat × (Nat → Int32))} {i pc ci k : Nat} {c1 : Int32} {c2 : Int64} {ls ls2 : List (Nat × Value)} {st st2 : List Value} {h h2 hh : q_H} {ob : Prop} {r : Option Value} (hd : decode (q_cB i) pc = .ok (.dup2, 1)) (hs : q_s_dup2 0 ci k c1 c2 ls st h = some (ls2, st2, h2, ob)) (hob : ob) (E : q_Ex sc i (pc + 1) ls2 st2 h2 r hh) : q_Ex sc i pc ls st h r hh := by
  unfold q_s_dup2 at hs
  split at hs
  · cases hs
    exact q_x_dup2_ia hd E
  · cases hs
    exact q_x_dup2_l hd E
  · cases hs
def q_s_pop2 (k1 : Nat) (ci k : Nat) (c1 : Int32) (c2 : Int64) (ls : List (Nat × Value)) (st : List Value) (h : q_H) : Option q_S := match st with
  | .long x :: st => some (ls, st, h, True)
  | _ => none
theorem q_k_pop2 {sc : Option (Nat × (Nat → Int32))} {i pc ci k : Nat} {c1 : Int32} {c2 : Int64} {ls ls2 : List (Nat × Value)} {st st2 : List Value} {h h2 hh : q_H} {ob : Prop} {r : Option Value} (hd : decode (q_cB i) pc = .ok (.pop2, 1)) (hs : q_s_pop2 0 ci k c1 c2 ls st h = some (ls2, st2, h2, ob)) (hob : ob) (E : q_Ex sc i (pc + 1) ls2 st2 h2 r hh) : q_Ex sc i pc ls st h r hh := by
  unfold q_s_pop2 at hs
  split at hs
  · cases hs
    exact q_x_pop2_l hd E
  · cases hs
def q_s_getfield (k1 : Nat) (ci k : Nat) (c1 : Int32) (c2 : Int64) (ls : List (Nat × Value)) (st : List Value) (h : q_H) : Option q_S := match st with
  | .ref n :: st => some (ls, q_av h ci n k :: st, h, q_kd h n = some (.inl ci))
  | _ => none
theorem q_k_getfield {sc : Option (Nat × (Nat → Int32))} {i pc ci k : Nat} {c1 : Int32} {c2 : Int64} {ls ls2 : List (Nat × Value)} {st st2 : List Value} {h h2 hh : q_H} {ob : Prop} {r : Option Value} {n : Nat} (hd : decode (q_cB i) pc = .ok (.getfield n, 3)) (hside : q_fd (q_mC i) n ci k = true) (hs : q_s_getfield 0 ci k c1 c2 ls st h = some (ls2, st2, h2, ob)) (hob : ob) (E : q_Ex sc i (pc + 3) ls2 st2 h2 r hh) : q_Ex sc i pc ls st h r hh := by
  unfold q_s_getfield at hs
  split at hs
  · cases hs
    exact q_x_get hside hob hd E
  · cases hs
def q_s_putfield (k1 : Nat) (ci k : Nat) (c1 : Int32) (c2 : Int64) (ls : List (Nat × Value)) (st : List Value) (h : q_H) : Option q_S := match st with
  | .int v :: .ref n :: st => if q_fk ci k = 0 then some (ls, st, (h.1, q_u2 h.2.1 n k v, h.2.2.1, h.2.2.2), q_kd h n = some (.inl ci) ∧ narrow (q_ty ci k) (.int v) = .int v ∧ fits (q_ty ci k) (.int v) = true) else none
  | .long v :: .ref n :: st => if q_fk ci k = 1 then some (ls, st, (h.1, h.2.1, q_u2 h.2.2.1 n k v, h.2.2.2), q_kd h n = some (.inl ci)) else none
  | .ref v :: .ref n :: st => if q_fk ci k = 2 then some (ls, st, (h.1, h.2.1, h.2.2.1, q_u2 h.2.2.2 n k (some v)), q_kd h n = some (.inl ci)) else none
  | _ => none
theorem q_k_putfield {sc : Option (Nat × (Nat → Int32))} {i pc ci k : Nat} {c1 : Int32} {c2 : Int64} {ls ls2 : List (Nat × Value)} {st st2 : List Value} {h h2 hh : q_H} {ob : Prop} {r : Option Value} {n : Nat} (hd : decode (q_cB i) pc = .ok (.putfield n, 3)) (hside : q_fd (q_mC i) n ci k = true ∧ ((q_tt ci k).2.2.2 = false ∨ (((q_tt ci k).2.2.2 = true ∧ (q_mY i).name = "<init>") ∧ (q_tt ci k).1 = q_cn (q_mC i)))) (hs : q_s_putfield 0 ci k c1 c2 ls st h = some (ls2, st2, h2, ob)) (hob : ob) (E : q_Ex sc i (pc + 3) ls2 st2 h2 r hh) : q_Ex sc i pc ls st h r hh := by
  unfold q_s_putfield at hs
  split at hs
  · split at hs
    · cases hs
      obtain ⟨hf, hfin | hfin⟩ := hside
      · exact q_x_putI hf (by assumption) hfin hob.1 hob.2 hd E
      · exact q_x_putIF hf (by assumption) hfin.1.1 hfin.1.2 hfin.2 hob.1 hob.2 hd E
    · cases hs
  · split at hs
    · cases hs
      obtain ⟨hf, hfin | hfin⟩ := hside
      · exact q_x_putL hf (by assumption) hfin hob hd E
      · exact q_x_putLF hf (by assumption) hfin.1.1 hfin.1.2 hfin.2 hob hd E
    · cases hs
  · split at hs
    · cases hs
      obtain ⟨hf, hfin | hfin⟩ := hside
      · exact q_x_putR hf (by assumption) hfin hob hd E
      · exact q_x_putRF hf (by assumption) hfin.1.1 hfin.1.2 hfin.2 hob hd E
    · cases hs
  · cases hs
def q_s_iaload (k1 : Nat) (ci k : Nat) (c1 : Int32) (c2 : Int64) (ls : List (Nat × Value)) (st : List Value) (h : q_H) : Option q_S := match st with
  | .int a :: .ref n :: st => some (ls, .int (h.2.1 n a.toNatClampNeg) :: st, h, q_arr h n 0 a)
  | _ => none
theorem q_k_iaload {sc : Option (Nat × (Nat → Int32))} {i pc ci k : Nat} {c1 : Int32} {c2 : Int64} {ls ls2 : List (Nat × Value)} {st st2 : List Value} {h h2 hh : q_H} {ob : Prop} {r : Option Value} (hd : decode (q_cB i) pc = .ok (.iaload, 1)) (hs : q_s_iaload 0 ci k c1 c2 ls st h = some (ls2, st2, h2, ob)) (hob : ob) (E : q_Ex sc i (pc + 1) ls2 st2 h2 r hh) : q_Ex sc i pc ls st h r hh := by
  unfold q_s_iaload at hs
  split at hs
  · cases hs
    exact q_x_iald hob.choose_spec.1 hob.choose_spec.2 hd E
  · cases hs
def q_s_laload (k1 : Nat) (ci k : Nat) (c1 : Int32) (c2 : Int64) (ls : List (Nat × Value)) (st : List Value) (h : q_H) : Option q_S := match st with
  | .int a :: .ref n :: st => some (ls, .long (h.2.2.1 n a.toNatClampNeg) :: st, h, q_arr h n 1 a)
  | _ => none
theorem q_k_laload {sc : Option (Nat × (Nat → Int32))} {i pc ci k : Nat} {c1 : Int32} {c2 : Int64} {ls ls2 : List (Nat × Value)} {st st2 : List Value} {h h2 hh : q_H} {ob : Prop} {r : Option Value} (hd : decode (q_cB i) pc = .ok (.laload, 1)) (hs : q_s_laload 0 ci k c1 c2 ls st h = some (ls2, st2, h2, ob)) (hob : ob) (E : q_Ex sc i (pc + 1) ls2 st2 h2 r hh) : q_Ex sc i pc ls st h r hh := by
  unfold q_s_laload at hs
  split at hs
  · cases hs
    exact q_x_lald hob.choose_spec.1 hob.choose_spec.2 hd E
  · cases hs
def q_s_aaload (k1 : Nat) (ci k : Nat) (c1 : Int32) (c2 : Int64) (ls : List (Nat × Value)) (st : List Value) (h : q_H) : Option q_S := match st with
  | .int a :: .ref n :: st => some (ls, va_rf (h.2.2.2 n a.toNatClampNeg) :: st, h, q_arr h n 2 a)
  | _ => none
theorem q_k_aaload {sc : Option (Nat × (Nat → Int32))} {i pc ci k : Nat} {c1 : Int32} {c2 : Int64} {ls ls2 : List (Nat × Value)} {st st2 : List Value} {h h2 hh : q_H} {ob : Prop} {r : Option Value} (hd : decode (q_cB i) pc = .ok (.aaload, 1)) (hs : q_s_aaload 0 ci k c1 c2 ls st h = some (ls2, st2, h2, ob)) (hob : ob) (E : q_Ex sc i (pc + 1) ls2 st2 h2 r hh) : q_Ex sc i pc ls st h r hh := by
  unfold q_s_aaload at hs
  split at hs
  · cases hs
    exact q_x_aald hob.choose_spec.1 hob.choose_spec.2 hd E
  · cases hs
def q_s_iastore (k1 : Nat) (ci k : Nat) (c1 : Int32) (c2 : Int64) (ls : List (Nat × Value)) (st : List Value) (h : q_H) : Option q_S := match st with
  | .int v :: .int a :: .ref n :: st => some (ls, st, (h.1, q_u2 h.2.1 n a.toNatClampNeg v, h.2.2.1, h.2.2.2), q_arr h n 0 a)
  | _ => none
theorem q_k_iastore {sc : Option (Nat × (Nat → Int32))} {i pc ci k : Nat} {c1 : Int32} {c2 : Int64} {ls ls2 : List (Nat × Value)} {st st2 : List Value} {h h2 hh : q_H} {ob : Prop} {r : Option Value} (hd : decode (q_cB i) pc = .ok (.iastore, 1)) (hs : q_s_iastore 0 ci k c1 c2 ls st h = some (ls2, st2, h2, ob)) (hob : ob) (E : q_Ex sc i (pc + 1) ls2 st2 h2 r hh) : q_Ex sc i pc ls st h r hh := by
  unfold q_s_iastore at hs
  split at hs
  · cases hs
    exact q_x_iast hob.choose_spec.1 hob.choose_spec.2 hd E
  · cases hs
def q_s_lastore (k1 : Nat) (ci k : Nat) (c1 : Int32) (c2 : Int64) (ls : List (Nat × Value)) (st : List Value) (h : q_H) : Option q_S := match st with
  | .long v :: .int a :: .ref n :: st => some (ls, st, (h.1, h.2.1, q_u2 h.2.2.1 n a.toNatClampNeg v, h.2.2.2), q_arr h n 1 a)
  | _ => none
theorem q_k_lastore {sc : Option (Nat × (Nat → Int32))} {i pc ci k : Nat} {c1 : Int32} {c2 : Int64} {ls ls2 : List (Nat × Value)} {st st2 : List Value} {h h2 hh : q_H} {ob : Prop} {r : Option Value} (hd : decode (q_cB i) pc = .ok (.lastore, 1)) (hs : q_s_lastore 0 ci k c1 c2 ls st h = some (ls2, st2, h2, ob)) (hob : ob) (E : q_Ex sc i (pc + 1) ls2 st2 h2 r hh) : q_Ex sc i pc ls st h r hh := by
  unfold q_s_lastore at hs
  split at hs
  · cases hs
    exact q_x_last hob.choose_spec.1 hob.choose_spec.2 hd E
  · cases hs
def q_s_aastore (k1 : Nat) (ci k : Nat) (c1 : Int32) (c2 : Int64) (ls : List (Nat × Value)) (st : List Value) (h : q_H) : Option q_S := match st with
  | .ref v :: .int a :: .ref n :: st => some (ls, st, (h.1, h.2.1, h.2.2.1, q_u2 h.2.2.2 n a.toNatClampNeg (some v)), q_arr h n 2 a ∧ q_kd h v = some (.inl 1))
  | _ => none
theorem q_k_aastore {sc : Option (Nat × (Nat → Int32))} {i pc ci k : Nat} {c1 : Int32} {c2 : Int64} {ls ls2 : List (Nat × Value)} {st st2 : List Value} {h h2 hh : q_H} {ob : Prop} {r : Option Value} (hd : decode (q_cB i) pc = .ok (.aastore, 1)) (hs : q_s_aastore 0 ci k c1 c2 ls st h = some (ls2, st2, h2, ob)) (hob : ob) (E : q_Ex sc i (pc + 1) ls2 st2 h2 r hh) : q_Ex sc i pc ls st h r hh := by
  unfold q_s_aastore at hs
  split at hs
  · cases hs
    exact q_x_aast hob.1.choose_spec.1 hob.1.choose_spec.2 hob.2 hd E
  · cases hs
def q_stp (x : q_I) (ls : List (Nat × Value)) (st : List Value) (h : q_H) : Option q_S := match x.1 with
  | .aconst_null => q_s_aconst_null 0 x.2.2.1 x.2.2.2.1 x.2.2.2.2.1 x.2.2.2.2.2 ls st h
  | .iconst _ => q_s_iconst 0 x.2.2.1 x.2.2.2.1 x.2.2.2.2.1 x.2.2.2.2.2 ls st h
  | .bipush _ => q_s_bipush 0 x.2.2.1 x.2.2.2.1 x.2.2.2.2.1 x.2.2.2.2.2 ls st h
  | .sipush _ => q_s_sipush 0 x.2.2.1 x.2.2.2.1 x.2.2.2.2.1 x.2.2.2.2.2 ls st h
  | .ldc _ => q_s_ldc 0 x.2.2.1 x.2.2.2.1 x.2.2.2.2.1 x.2.2.2.2.2 ls st h
  | .ldc_w _ => q_s_ldc_w 0 x.2.2.1 x.2.2.2.1 x.2.2.2.2.1 x.2.2.2.2.2 ls st h
  | .lconst _ => q_s_lconst 0 x.2.2.1 x.2.2.2.1 x.2.2.2.2.1 x.2.2.2.2.2 ls st h
  | .ldc2_w _ => q_s_ldc2_w 0 x.2.2.1 x.2.2.2.1 x.2.2.2.2.1 x.2.2.2.2.2 ls st h
  | .iload n => q_s_iload n x.2.2.1 x.2.2.2.1 x.2.2.2.2.1 x.2.2.2.2.2 ls st h
  | .iload_n n => q_s_iload_n n.val x.2.2.1 x.2.2.2.1 x.2.2.2.2.1 x.2.2.2.2.2 ls st h
  | .lload n => q_s_lload n x.2.2.1 x.2.2.2.1 x.2.2.2.2.1 x.2.2.2.2.2 ls st h
  | .lload_n n => q_s_lload_n n.val x.2.2.1 x.2.2.2.1 x.2.2.2.2.1 x.2.2.2.2.2 ls st h
  | .aload n => q_s_aload n x.2.2.1 x.2.2.2.1 x.2.2.2.2.1 x.2.2.2.2.2 ls st h
  | .aload_n n => q_s_aload_n n.val x.2.2.1 x.2.2.2.1 x.2.2.2.2.1 x.2.2.2.2.2 ls st h
  | .istore n => q_s_istore n x.2.2.1 x.2.2.2.1 x.2.2.2.2.1 x.2.2.2.2.2 ls st h
  | .istore_n n => q_s_istore_n n.val x.2.2.1 x.2.2.2.1 x.2.2.2.2.1 x.2.2.2.2.2 ls st h
  | .lstore n => q_s_lstore n x.2.2.1 x.2.2.2.1 x.2.2.2.2.1 x.2.2.2.2.2 ls st h
  | .lstore_n n => q_s_lstore_n n.val x.2.2.1 x.2.2.2.1 x.2.2.2.2.1 x.2.2.2.2.2 ls st h
  | .astore n => q_s_astore n x.2.2.1 x.2.2.2.1 x.2.2.2.2.1 x.2.2.2.2.2 ls st h
  | .astore_n n => q_s_astore_n n.val x.2.2.1 x.2.2.2.1 x.2.2.2.2.1 x.2.2.2.2.2 ls st h
  | .iinc n _ => q_s_iinc n x.2.2.1 x.2.2.2.1 x.2.2.2.2.1 x.2.2.2.2.2 ls st h
  | .iadd => q_s_iadd 0 x.2.2.1 x.2.2.2.1 x.2.2.2.2.1 x.2.2.2.2.2 ls st h
  | .isub => q_s_isub 0 x.2.2.1 x.2.2.2.1 x.2.2.2.2.1 x.2.2.2.2.2 ls st h
  | .imul => q_s_imul 0 x.2.2.1 x.2.2.2.1 x.2.2.2.2.1 x.2.2.2.2.2 ls st h
  | .iand => q_s_iand 0 x.2.2.1 x.2.2.2.1 x.2.2.2.2.1 x.2.2.2.2.2 ls st h
  | .ixor => q_s_ixor 0 x.2.2.1 x.2.2.2.1 x.2.2.2.2.1 x.2.2.2.2.2 ls st h
  | .ladd => q_s_ladd 0 x.2.2.1 x.2.2.2.1 x.2.2.2.2.1 x.2.2.2.2.2 ls st h
  | .lsub => q_s_lsub 0 x.2.2.1 x.2.2.2.1 x.2.2.2.2.1 x.2.2.2.2.2 ls st h
  | .lmul => q_s_lmul 0 x.2.2.1 x.2.2.2.1 x.2.2.2.2.1 x.2.2.2.2.2 ls st h
  | .lxor => q_s_lxor 0 x.2.2.1 x.2.2.2.1 x.2.2.2.2.1 x.2.2.2.2.2 ls st h
  | .idiv => q_s_idiv 0 x.2.2.1 x.2.2.2.1 x.2.2.2.2.1 x.2.2.2.2.2 ls st h
  | .irem => q_s_irem 0 x.2.2.1 x.2.2.2.1 x.2.2.2.2.1 x.2.2.2.2.2 ls st h
  | .ldiv => q_s_ldiv 0 x.2.2.1 x.2.2.2.1 x.2.2.2.2.1 x.2.2.2.2.2 ls st h
  | .lrem => q_s_lrem 0 x.2.2.1 x.2.2.2.1 x.2.2.2.2.1 x.2.2.2.2.2 ls st h
  | .ineg => q_s_ineg 0 x.2.2.1 x.2.2.2.1 x.2.2.2.2.1 x.2.2.2.2.2 ls st h
  | .lneg => q_s_lneg 0 x.2.2.1 x.2.2.2.1 x.2.2.2.2.1 x.2.2.2.2.2 ls st h
  | .i2l => q_s_i2l 0 x.2.2.1 x.2.2.2.1 x.2.2.2.2.1 x.2.2.2.2.2 ls st h
  | .l2i => q_s_l2i 0 x.2.2.1 x.2.2.2.1 x.2.2.2.2.1 x.2.2.2.2.2 ls st h
  | .lshr => q_s_lshr 0 x.2.2.1 x.2.2.2.1 x.2.2.2.2.1 x.2.2.2.2.2 ls st h
  | .lcmp => q_s_lcmp 0 x.2.2.1 x.2.2.2.1 x.2.2.2.2.1 x.2.2.2.2.2 ls st h
  | .dup => q_s_dup 0 x.2.2.1 x.2.2.2.1 x.2.2.2.2.1 x.2.2.2.2.2 ls st h
  | .pop => q_s_pop 0 x.2.2.1 x.2.2.2.1 x.2.2.2.2.1 x.2.2.2.2.2 ls st h
  | .dup2 => q_s_dup2 0 x.2.2.1 x.2.2.2.1 x.2.2.2.2.1 x.2.2.2.2.2 ls st h
  | .pop2 => q_s_pop2 0 x.2.2.1 x.2.2.2.1 x.2.2.2.2.1 x.2.2.2.2.2 ls st h
  | .getfield _ => q_s_getfield 0 x.2.2.1 x.2.2.2.1 x.2.2.2.2.1 x.2.2.2.2.2 ls st h
  | .putfield _ => q_s_putfield 0 x.2.2.1 x.2.2.2.1 x.2.2.2.2.1 x.2.2.2.2.2 ls st h
  | .iaload => q_s_iaload 0 x.2.2.1 x.2.2.2.1 x.2.2.2.2.1 x.2.2.2.2.2 ls st h
  | .laload => q_s_laload 0 x.2.2.1 x.2.2.2.1 x.2.2.2.2.1 x.2.2.2.2.2 ls st h
  | .aaload => q_s_aaload 0 x.2.2.1 x.2.2.2.1 x.2.2.2.2.1 x.2.2.2.2.2 ls st h
  | .iastore => q_s_iastore 0 x.2.2.1 x.2.2.2.1 x.2.2.2.2.1 x.2.2.2.2.2 ls st h
  | .lastore => q_s_lastore 0 x.2.2.1 x.2.2.2.1 x.2.2.2.2.1 x.2.2.2.2.2 ls st h
  | .aastore => q_s_aastore 0 x.2.2.1 x.2.2.2.1 x.2.2.2.2.1 x.2.2.2.2.2 ls st h
  | _ => none
theorem q_stp_ok {sc : Option (Nat × (Nat → Int32))} {i pc : Nat} {x : q_I} {ls ls2 : List (Nat × Value)} {st st2 : List Value} {h h2 hh : q_H} {ob : Prop} {r : Option Value} (hok : q_ok i pc x = true) (hs : q_stp x ls st h = some (ls2, st2, h2, ob)) (hob : ob) (E : q_Ex sc i (pc + q_ln x.1) ls2 st2 h2 r hh) : q_Ex sc i pc ls st h r hh := by
  simp only [q_ok, Bool.and_eq_true, decide_eq_true_eq] at hok
  obtain ⟨hd, hside⟩ := hok
  obtain ⟨ins, len, ci, k, c1, c2⟩ := x
  cases ins
  case aconst_null => exact q_k_aconst_null (ci := ci) (k := k) (c1 := c1) (c2 := c2) hd hs hob E
  case iconst => exact q_k_iconst (ci := ci) (k := k) (c1 := c1) (c2 := c2) hd (of_decide_eq_true hside) hs hob E
  case bipush => exact q_k_bipush (ci := ci) (k := k) (c1 := c1) (c2 := c2) hd (of_decide_eq_true hside) hs hob E
  case sipush => exact q_k_sipush (ci := ci) (k := k) (c1 := c1) (c2 := c2) hd (of_decide_eq_true hside) hs hob E
  case ldc => exact q_k_ldc (ci := ci) (k := k) (c1 := c1) (c2 := c2) hd hside hs hob E
  case ldc_w => exact q_k_ldc_w (ci := ci) (k := k) (c1 := c1) (c2 := c2) hd hside hs hob E
  case lconst => exact q_k_lconst (ci := ci) (k := k) (c1 := c1) (c2 := c2) hd (of_decide_eq_true hside) hs hob E
  case ldc2_w => exact q_k_ldc2_w (ci := ci) (k := k) (c1 := c1) (c2 := c2) hd hside hs hob E
  case iload => exact q_k_iload (ci := ci) (k := k) (c1 := c1) (c2 := c2) hd hs hob E
  case iload_n => exact q_k_iload_n (ci := ci) (k := k) (c1 := c1) (c2 := c2) hd hs hob E
  case lload => exact q_k_lload (ci := ci) (k := k) (c1 := c1) (c2 := c2) hd hs hob E
  case lload_n => exact q_k_lload_n (ci := ci) (k := k) (c1 := c1) (c2 := c2) hd hs hob E
  case aload => exact q_k_aload (ci := ci) (k := k) (c1 := c1) (c2 := c2) hd hs hob E
  case aload_n => exact q_k_aload_n (ci := ci) (k := k) (c1 := c1) (c2 := c2) hd hs hob E
  case istore => exact q_k_istore (ci := ci) (k := k) (c1 := c1) (c2 := c2) hd (of_decide_eq_true hside) hs hob E
  case istore_n => exact q_k_istore_n (ci := ci) (k := k) (c1 := c1) (c2 := c2) hd (of_decide_eq_true hside) hs hob E
  case lstore => exact q_k_lstore (ci := ci) (k := k) (c1 := c1) (c2 := c2) hd (of_decide_eq_true hside) hs hob E
  case lstore_n => exact q_k_lstore_n (ci := ci) (k := k) (c1 := c1) (c2 := c2) hd (of_decide_eq_true hside) hs hob E
  case astore => exact q_k_astore (ci := ci) (k := k) (c1 := c1) (c2 := c2) hd (of_decide_eq_true hside) hs hob E
  case astore_n => exact q_k_astore_n (ci := ci) (k := k) (c1 := c1) (c2 := c2) hd (of_decide_eq_true hside) hs hob E
  case iinc => exact q_k_iinc (ci := ci) (k := k) (c1 := c1) (c2 := c2) hd (by simp only [q_sid, Bool.and_eq_true, decide_eq_true_eq] at hside; exact hside) hs hob E
  case iadd => exact q_k_iadd (ci := ci) (k := k) (c1 := c1) (c2 := c2) hd hs hob E
  case isub => exact q_k_isub (ci := ci) (k := k) (c1 := c1) (c2 := c2) hd hs hob E
  case imul => exact q_k_imul (ci := ci) (k := k) (c1 := c1) (c2 := c2) hd hs hob E
  case iand => exact q_k_iand (ci := ci) (k := k) (c1 := c1) (c2 := c2) hd hs hob E
  case ixor => exact q_k_ixor (ci := ci) (k := k) (c1 := c1) (c2 := c2) hd hs hob E
  case ladd => exact q_k_ladd (ci := ci) (k := k) (c1 := c1) (c2 := c2) hd hs hob E
  case lsub => exact q_k_lsub (ci := ci) (k := k) (c1 := c1) (c2 := c2) hd hs hob E
  case lmul => exact q_k_lmul (ci := ci) (k := k) (c1 := c1) (c2 := c2) hd hs hob E
  case lxor => exact q_k_lxor (ci := ci) (k := k) (c1 := c1) (c2 := c2) hd hs hob E
  case idiv => exact q_k_idiv (ci := ci) (k := k) (c1 := c1) (c2 := c2) hd hs hob E
  case irem => exact q_k_irem (ci := ci) (k := k) (c1 := c1) (c2 := c2) hd hs hob E
  case ldiv => exact q_k_ldiv (ci := ci) (k := k) (c1 := c1) (c2 := c2) hd hs hob E
  case lrem => exact q_k_lrem (ci := ci) (k := k) (c1 := c1) (c2 := c2) hd hs hob E
  case ineg => exact q_k_ineg (ci := ci) (k := k) (c1 := c1) (c2 := c2) hd hs hob E
  case lneg => exact q_k_lneg (ci := ci) (k := k) (c1 := c1) (c2 := c2) hd hs hob E
  case i2l => exact q_k_i2l (ci := ci) (k := k) (c1 := c1) (c2 := c2) hd hs hob E
  case l2i => exact q_k_l2i (ci := ci) (k := k) (c1 := c1) (c2 := c2) hd hs hob E
  case lshr => exact q_k_lshr (ci := ci) (k := k) (c1 := c1) (c2 := c2) hd hs hob E
  case lcmp => exact q_k_lcmp (ci := ci) (k := k) (c1 := c1) (c2 := c2) hd hs hob E
  case dup => exact q_k_dup (ci := ci) (k := k) (c1 := c1) (c2 := c2) hd hs hob E
  case pop => exact q_k_pop (ci := ci) (k := k) (c1 := c1) (c2 := c2) hd hs hob E
  case dup2 => exact q_k_dup2 (ci := ci) (k := k) (c1 := c1) (c2 := c2) hd hs hob E
  case pop2 => exact q_k_pop2 (ci := ci) (k := k) (c1 := c1) (c2 := c2) hd hs hob E
  case getfield => exact q_k_getfield (ci := ci) (k := k) (c1 := c1) (c2 := c2) hd hside hs hob E
  case putfield => exact q_k_putfield (ci := ci) (k := k) (c1 := c1) (c2 := c2) hd (by simp only [q_sid, Bool.and_eq_true, Bool.or_eq_true, decide_eq_true_eq] at hside; exact hside) hs hob E
  case iaload => exact q_k_iaload (ci := ci) (k := k) (c1 := c1) (c2 := c2) hd hs hob E
  case laload => exact q_k_laload (ci := ci) (k := k) (c1 := c1) (c2 := c2) hd hs hob E
  case aaload => exact q_k_aaload (ci := ci) (k := k) (c1 := c1) (c2 := c2) hd hs hob E
  case iastore => exact q_k_iastore (ci := ci) (k := k) (c1 := c1) (c2 := c2) hd hs hob E
  case lastore => exact q_k_lastore (ci := ci) (k := k) (c1 := c1) (c2 := c2) hd hs hob E
  case aastore => exact q_k_aastore (ci := ci) (k := k) (c1 := c1) (c2 := c2) hd hs hob E
  all_goals exact absurd hs (by intro q; cases q)
def q_run (is : List q_I) (ls : List (Nat × Value)) (st : List Value) (h : q_H) : Option q_S := match is with
  | [] => some (ls, st, h, True)
  | x :: xs => match q_stp x ls st h with
    | none => none
    | some (ls1, st1, h1, o1) => match q_run xs ls1 st1 h1 with
      | none => none
      | some (ls2, st2, h2, o2) => some (ls2, st2, h2, o1 ∧ o2)
def q_okL (i pc : Nat) (is : List q_I) : Bool := match is with
  | [] => true
  | x :: xs => q_ok i pc x && q_okL i (pc + q_ln x.1) xs
def q_end (pc : Nat) (is : List q_I) : Nat := match is with
  | [] => pc
  | x :: xs => q_end (pc + q_ln x.1) xs
theorem q_blk {sc : Option (Nat × (Nat → Int32))} {i : Nat} {r : Option Value} {hh : q_H} (is : List q_I) : ∀ {pc : Nat} {ls ls2 : List (Nat × Value)} {st st2 : List Value} {h h2 : q_H} {ob : Prop} (_ : q_okL i pc is = true) (_ : q_run is ls st h = some (ls2, st2, h2, ob)) (_ : ob) (_ : q_Ex sc i (q_end pc is) ls2 st2 h2 r hh), q_Ex sc i pc ls st h r hh := by
  induction is with
  | nil =>
    intro pc ls ls2 st st2 h h2 ob hok hs hob E
    cases hs
    exact E
  | cons x xs ih =>
    intro pc ls ls2 st st2 h h2 ob hok hs hob E
    simp only [q_okL, Bool.and_eq_true] at hok
    unfold q_run at hs
    split at hs
    · cases hs
    · next ls1 st1 h1 o1 h9 =>
      split at hs
      · cases hs
      · next ls3 st3 h3 o3 h8 =>
        cases hs
        exact q_stp_ok hok.1 h9 hob.1 (ih hok.2 h8 hob.2 E)
end
section
/-! what stands when both objects are made: kinds and references; helpers of the walk (written by wip/whole/gen10.py) -/
def q_K0 : List q_Kd := [.inl 8, .inl 3, .inl 0, .inl 2, .inr (0, 128), .inr (0, 128), .inr (0, 128), .inr (0, 128), .inr (0, 128), .inl 1, .inl 1, .inl 1, .inr (0, 128), .inr (0, 128), .inr (0, 128), .inr (0, 16), .inl 6, .inr (2, 40), .inl 1, .inl 1, .inl 1, .inl 1, .inl 1, .inl 1, .inl 1, .inl 1, .inl 1, .inl 1, .inl 1, .inl 1, .inl 1, .inl 1, .inl 1, .inl 1, .inl 1, .inl 1, .inl 1, .inl 1, .inl 1, .inl 1, .inl 1, .inl 1, .inl 1, .inl 1, .inl 1, .inl 1, .inl 1, .inl 1, .inl 1, .inl 1, .inl 1, .inl 1, .inl 1, .inl 1, .inl 1, .inl 1, .inl 1, .inl 1, .inr (2, 60), .inl 1, .inl 1, .inl 1, .inl 1, .inl 1, .inl 1, .inl 1, .inl 1, .inl 1, .inl 1, .inl 1, .inl 1, .inl 1, .inl 1, .inl 1, .inl 1, .inl 1, .inl 1, .inl 1, .inl 1, .inl 1, .inl 1, .inl 1, .inl 1, .inl 1, .inl 1, .inl 1, .inl 1, .inl 1, .inl 1, .inl 1, .inl 1, .inl 1, .inl 1, .inl 1, .inl 1, .inl 1, .inl 1, .inl 1, .inl 1, .inl 1, .inl 1, .inl 1, .inl 1, .inl 1, .inl 1, .inl 1, .inl 1, .inl 1, .inl 1, .inl 1, .inl 1, .inl 1, .inl 1, .inl 1, .inl 1, .inl 1, .inl 1, .inl 1, .inl 1, .inr (0, 60), .inl 7, .inl 4, .inr (0, 200), .inr (0, 200), .inl 5, .inl 1, .inl 7, .inl 9, .inr (1, 120), .inr (1, 240), .inr (1, 4), .inr (0, 200), .inr (0, 200), .inr (0, 4000), .inr (0, 4000), .inr (0, 4000), .inr (0, 1000), .inr (0, 1000), .inr (0, 20), .inr (0, 1000), .inr (0, 1000), .inr (0, 1000)]
def q_R0 (n k : Nat) : Option Nat := match n with
  | 1 => (match k with
    | 0 => some 2
    | 1 => some 3
    | 2 => some 4
    | 3 => some 17
    | 4 => some 121
    | 5 => some 122
    | 6 => some 125
    | 7 => some 126
    | 8 => some 127
    | _ => none)
  | 2 => (match k with
    | 0 => some 3
    | 1 => some 13
    | 2 => some 14
    | 3 => some 15
    | 4 => some 16
    | _ => none)
  | 3 => (match k with
    | 0 => some 4
    | 1 => some 5
    | 2 => some 6
    | 3 => some 7
    | 4 => some 8
    | 5 => some 9
    | 6 => some 10
    | 7 => some 11
    | 8 => some 12
    | _ => none)
  | 17 => (match k with
    | 0 => some 18
    | 1 => some 59
    | 2 => some 120
    | _ => none)
  | 122 => (match k with
    | 0 => some 123
    | 1 => some 124
    | _ => none)
  | 128 => (match k with
    | 4 => some 129
    | 5 => some 130
    | 8 => some 131
    | 9 => some 132
    | 10 => some 133
    | 19 => some 134
    | 20 => some 135
    | 21 => some 136
    | 24 => some 137
    | 25 => some 138
    | 29 => some 139
    | 30 => some 140
    | 32 => some 141
    | 33 => some 142
    | _ => none)
  | 18 => if k < 40 then some (19 + k) else none
  | 59 => if k < 60 then some (60 + k) else none
  | _ => none
abbrev q_Z : Type := (Nat → Nat → Int32) × (Nat → Nat → Int64)
def q_hp (z : q_Z) : q_H := (q_K0, z.1, z.2, q_R0)
def q_kk (n : Nat) : Option q_Kd := match n with
  | 0 => none
  | k + 1 => q_K0[k]?
theorem q_kk18 : ∀ k, k < 40 → q_kk (19 + k) = some (.inl 1) := by decide +kernel
theorem q_kk59 : ∀ k, k < 60 → q_kk (60 + k) = some (.inl 1) := by decide +kernel
theorem q_rf18 {k o : Nat} (h : q_R0 18 k = some o) : q_kk o = some (.inl 1) := by
  have h1 : (if k < 40 then some (19 + k) else none) = some o := h
  by_cases c : k < 40
  · rw [if_pos c] at h1
    cases h1
    exact q_kk18 k c
  · rw [if_neg c] at h1
    cases h1
theorem q_rf59 {k o : Nat} (h : q_R0 59 k = some o) : q_kk o = some (.inl 1) := by
  have h1 : (if k < 60 then some (60 + k) else none) = some o := h
  by_cases c : k < 60
  · rw [if_pos c] at h1
    cases h1
    exact q_kk59 k c
  · rw [if_neg c] at h1
    cases h1
def q_fu : Nat := 2000000
def q_lp {σ : Type} (b : σ → Option (σ × Nat)) : Nat → σ → Option (σ × Nat)
  | 0, _ => none
  | n + 1, s => (b s).bind fun p => match p.2 with
    | 0 => q_lp b n p.1
    | t + 1 => some (p.1, t)
theorem q_lp_ok {σ : Type} {b : σ → Option (σ × Nat)} {P : σ → Prop} {X : Nat → σ → Prop} (hb : ∀ s s2 t, b s = some (s2, t) → (t = 0 → P s2) → (∀ u, t = u + 1 → X u s2) → P s) : ∀ {n : Nat} {s s2 : σ} {t : Nat}, q_lp b n s = some (s2, t) → X t s2 → P s := by
  intro n
  induction n with
  | zero => intro s s2 t h; cases h
  | succ n ih =>
    intro s s2 t h hx
    obtain ⟨⟨s1, u⟩, h1, h2⟩ := Option.bind_eq_some_iff.mp h
    cases u with
    | zero => exact hb s s1 0 h1 (fun _ => ih h2 hx) (fun u e => by cases e)
    | succ u =>
      have h3 : some (s1, u) = some (s2, t) := h2
      simp only [Option.some.injEq, Prod.mk.injEq] at h3
      obtain ⟨e1, e2⟩ := h3
      subst e1
      subst e2
      exact hb s s1 (u + 1) h1 (fun e => by cases e) (fun w e => by cases e; exact hx)
theorem q_pick {sc : Option (Nat × (Nat → Int32))} {i pc : Nat} {ls ls2 : List (Nat × Value)} {st : List Value} {h h2 : q_H} {r : Option Value} (ks : List Nat) (hl : lv_pick ls ks = ls2) (E : q_Ex sc i pc ls2 st h r h2) : q_Ex sc i pc ls st h r h2 := by
  refine q_go0 (fun p l e R s m args below meth c D b base cA H locs cells slots lsA Q C hR hS hSc hlv kk => kk lsA ?_) E
  refine lv_sub hlv ks ?_
  rw [← hl]
  simp only [lv_pick, List.map_filterMap]
  congr 1
  funext k
  simp
theorem q_blk2 {sc : Option (Nat × (Nat → Int32))} {i : Nat} {r : Option Value} {hh : q_H} {pc pc2 : Nat} {ls ls2 : List (Nat × Value)} {st st2 : List Value} {h h2 : q_H} {ob : Prop} (is : List q_I) (h1 : q_okL i pc is = true) (h3 : q_end pc is = pc2) (h4 : q_run is ls st h = some (ls2, st2, h2, ob)) (h5 : ob) (E : q_Ex sc i pc2 ls2 st2 h2 r hh) : q_Ex sc i pc ls st h r hh := by
  subst h3
  exact q_blk is h1 h4 h5 E
theorem q_rret {sc : Option (Nat × (Nat → Int32))} {i pc : Nat} {ls : List (Nat × Value)} {h : q_H} {v : Option Nat} (n : String) (hr : q_mR i = some (.object n)) (hd : decode (q_cB i) pc = .ok (.areturn, 1)) : q_Ex sc i pc ls [va_rf v] h (some (va_rf v)) h := by
  cases v with
  | none => exact q_nret n hr hd
  | some a => exact q_aret n hr hd
theorem q_bo_n {v : Int32} (h : v = 0 ∨ v = 1) : narrow .boolean (.int v) = .int v := by
  rcases h with rfl | rfl <;> rfl
theorem q_neI {x y : Int32} (h : ¬ x = y) : x.toInt ≠ y.toInt := fun e => h (Int32.toInt_inj.mp e)
theorem q_cV1 {sc : Option (Nat × (Nat → Int32))} {i pc : Nat} {ls : List (Nat × Value)} {h h1 h2 : q_H} {r : Option Value} {v : Value} {idx : Nat} (st0 : List Value) (j n ci : Nat) (as st : List Value) (he : st0 = as.reverse ++ .ref n :: st)
    (hc : q_cr (q_mC i) idx j 0 = true) (hrm : q_rm i j = true) (hn : as.length = q_mN j) (hct : q_ct st ≤ 8) (hk : q_kd h n = some (.inl ci)) (hci : ci < 10) (hcn : q_cn ci = (q_mY j).cls)
    (hd : decode (q_cB i) pc = .ok (.invokevirtual idx, 3)) (hCa : q_Ca j (.ref n :: as) h (some v) h1) (E : q_Ex sc i (pc + 3) ls (v :: st) h1 r h2) : q_Ex sc i pc ls st0 h r h2 := by
  subst he
  exact q_callV j n ci as hc hrm hn hct hk hci hcn hd hCa E
theorem q_cV0 {sc : Option (Nat × (Nat → Int32))} {i pc : Nat} {ls : List (Nat × Value)} {h h1 h2 : q_H} {r : Option Value} {idx : Nat} (st0 : List Value) (j n ci : Nat) (as st : List Value) (he : st0 = as.reverse ++ .ref n :: st)
    (hc : q_cr (q_mC i) idx j 0 = true) (hrm : q_rm i j = true) (hn : as.length = q_mN j) (hct : q_ct st ≤ 8) (hk : q_kd h n = some (.inl ci)) (hci : ci < 10) (hcn : q_cn ci = (q_mY j).cls)
    (hd : decode (q_cB i) pc = .ok (.invokevirtual idx, 3)) (hCa : q_Ca j (.ref n :: as) h none h1) (E : q_Ex sc i (pc + 3) ls st h1 r h2) : q_Ex sc i pc ls st0 h r h2 := by
  subst he
  exact q_callV j n ci as hc hrm hn hct hk hci hcn hd hCa E
theorem q_cS1 {sc : Option (Nat × (Nat → Int32))} {i pc : Nat} {ls : List (Nat × Value)} {h h1 h2 : q_H} {r : Option Value} {v : Value} {idx : Nat} (st0 : List Value) (j : Nat) (as st : List Value) (he : st0 = as.reverse ++ st)
    (hc : q_cr (q_mC i) idx j 1 = true) (hrm : q_rm i j = true) (hn : as.length = q_mN j) (hct : q_ct st ≤ 8)
    (hd : decode (q_cB i) pc = .ok (.invokestatic idx, 3)) (hCa : q_Ca j as h (some v) h1) (E : q_Ex sc i (pc + 3) ls (v :: st) h1 r h2) : q_Ex sc i pc ls st0 h r h2 := by
  subst he
  exact q_callS j as hc hrm hn hct hd hCa E
end
section
/-! pure functions of the methods, and that the methods do what they say (written by wip/whole/dec.py) -/
def T_X7_rootOf_33 (z : q_Z) (l0 : Int64) (l2 : Int64) (l4 : Int64) : Option ((Int64 × Int64 × Int64 × q_Z) × Nat) :=
  some ((l0, l2, l4 >>> (Int32.toInt64 1 &&& 63), z), 0)
set_option maxRecDepth 100000 in
set_option maxHeartbeats 4000000 in
theorem t_X7_rootOf_33 {z : q_Z} {l0 : Int64} {l2 : Int64} {l4 : Int64} {s2 : Int64 × Int64 × Int64 × q_Z} {t : Nat} {r : Option Value} {h2 : q_H} (h : T_X7_rootOf_33 z l0 l2 l4 = some (s2, t)) (k0 : t = 0 → q_Ex none 48 7 [(0, .long s2.1), (2, .long s2.2.1), (4, .long s2.2.2.1)] [] (q_K0, s2.2.2.2.1, s2.2.2.2.2, q_R0) r h2) (k1 : t = 1 → q_Ex none 48 42 [(0, .long s2.1), (2, .long s2.2.1), (4, .long s2.2.2.1)] [] (q_K0, s2.2.2.2.1, s2.2.2.2.2, q_R0) r h2) : q_Ex none 48 33 [(0, .long l0), (2, .long l2), (4, .long l4)] [] (q_K0, z.1, z.2, q_R0) r h2 := by
  unfold T_X7_rootOf_33 at h
  refine q_blk2 (pc2 := 39) (ls2 := [(4, .long (l4 >>> (Int32.toInt64 1 &&& 63))), (0, .long l0), (2, .long l2)]) (st2 := []) (h2 := (q_K0, z.1, z.2, q_R0)) [(.lload 4, 0, 0, 0, 0, 0), (.iconst 1, 0, 0, 0, 1, 0), (.lshr, 0, 0, 0, 0, 0), (.lstore 4, 0, 0, 0, 0, 0)] (by decide +kernel) rfl rfl ⟨trivial, trivial, trivial, trivial, trivial⟩ ?_
  refine q_goto (off := -32) (tgt := 7) (by decide +kernel) (by decide) ?_
  cases h
  refine q_pick [1, 2, 0] rfl ?_
  exact k0 rfl
def B_X7_rootOf_7 : Int64 × Int64 × Int64 × q_Z → Option ((Int64 × Int64 × Int64 × q_Z) × Nat) := fun (l0, l2, l4, z) =>
  if l4 ≤ (0 : Int64) then
    some ((l0, l2, l4, z), 1)
  else
    if l0 < ((l2 + l4) * (l2 + l4)) then
      T_X7_rootOf_33 z l0 l2 l4
    else
      T_X7_rootOf_33 z l0 (l2 + l4) l4
set_option maxRecDepth 100000 in
set_option maxHeartbeats 4000000 in
theorem b_X7_rootOf_7 {s s2 : Int64 × Int64 × Int64 × q_Z} {t : Nat} {r : Option Value} {h2 : q_H} (h : B_X7_rootOf_7 s = some (s2, t)) (k0 : t = 0 → q_Ex none 48 7 [(0, .long s2.1), (2, .long s2.2.1), (4, .long s2.2.2.1)] [] (q_K0, s2.2.2.2.1, s2.2.2.2.2, q_R0) r h2) (k1 : t = 1 → q_Ex none 48 42 [(0, .long s2.1), (2, .long s2.2.1), (4, .long s2.2.2.1)] [] (q_K0, s2.2.2.2.1, s2.2.2.2.2, q_R0) r h2) : q_Ex none 48 7 [(0, .long s.1), (2, .long s.2.1), (4, .long s.2.2.1)] [] (q_K0, s.2.2.2.1, s.2.2.2.2, q_R0) r h2 := by
  unfold B_X7_rootOf_7 at h
  obtain ⟨l0, l2, l4, z⟩ := s
  dsimp only at h
  show q_Ex none 48 7 [(0, .long l0), (2, .long l2), (4, .long l4)] [] (q_K0, z.1, z.2, q_R0) r h2
  refine q_blk2 (pc2 := 10) (ls2 := [(0, .long l0), (2, .long l2), (4, .long l4)]) (st2 := [.long 0, .long l4]) (h2 := (q_K0, z.1, z.2, q_R0)) [(.lload 4, 0, 0, 0, 0, 0), (.lconst 0, 0, 0, 0, 0, 0)] (by decide +kernel) rfl rfl ⟨trivial, trivial, trivial⟩ ?_
  refine q_lc_le (off := 31) (tgt := 42) (by decide +kernel) (by decide +kernel) (by decide) (fun c10_1 => ?_) (fun c10_1 => ?_)
  · rw [if_pos c10_1] at h
    cases h
    refine q_pick [0, 1, 2] rfl ?_
    exact k1 rfl
  · rw [if_neg c10_1] at h
    refine q_blk2 (pc2 := 24) (ls2 := [(0, .long l0), (2, .long l2), (4, .long l4)]) (st2 := [.long l0, .long ((l2 + l4) * (l2 + l4))]) (h2 := (q_K0, z.1, z.2, q_R0)) [(.lload_n 2, 0, 0, 0, 0, 0), (.lload 4, 0, 0, 0, 0, 0), (.ladd, 0, 0, 0, 0, 0), (.lload_n 2, 0, 0, 0, 0, 0), (.lload 4, 0, 0, 0, 0, 0), (.ladd, 0, 0, 0, 0, 0), (.lmul, 0, 0, 0, 0, 0), (.lload_n 0, 0, 0, 0, 0, 0)] (by decide +kernel) rfl rfl ⟨trivial, trivial, trivial, trivial, trivial, trivial, trivial, trivial, trivial⟩ ?_
    refine q_lc_gt (off := 8) (tgt := 33) (by decide +kernel) (by decide +kernel) (by decide) (fun c24_2 => ?_) (fun c24_2 => ?_)
    · rw [if_pos c24_2] at h
      refine q_pick [0, 1, 2] rfl ?_
      exact t_X7_rootOf_33 h k0 k1
    · rw [if_neg c24_2] at h
      refine q_blk2 (pc2 := 33) (ls2 := [(2, .long (l2 + l4)), (0, .long l0), (4, .long l4)]) (st2 := []) (h2 := (q_K0, z.1, z.2, q_R0)) [(.lload_n 2, 0, 0, 0, 0, 0), (.lload 4, 0, 0, 0, 0, 0), (.ladd, 0, 0, 0, 0, 0), (.lstore_n 2, 0, 0, 0, 0, 0)] (by decide +kernel) rfl rfl ⟨trivial, trivial, trivial, trivial, trivial⟩ ?_
      refine q_pick [1, 0, 2] rfl ?_
      exact t_X7_rootOf_33 h k0 k1
/-- RootForms$Sums.rootOf(J)J -/
def F_X7_rootOf (z : q_Z) (l0 : Int64) : Option (Int64 × q_Z) :=
  (q_lp (B_X7_rootOf_7) q_fu (l0, 0, 32768, z)).bind fun ((w2, w3, w4, z1), tg) =>
    if tg = 0 then
      some (w3, z1)
    else none
set_option maxRecDepth 100000 in
set_option maxHeartbeats 4000000 in
theorem s_X7_rootOf {z zR : q_Z} {l0 : Int64} {rv : Int64} (h : F_X7_rootOf z l0 = some (rv, zR)) : q_Ca 48 [.long l0] (q_K0, z.1, z.2, q_R0) (some (.long rv)) (q_K0, zR.1, zR.2, q_R0) := by
  refine q_Ca_of (by decide) (Nat.le_of_ble_eq_true rfl) ?_
  show q_Ex none 48 0 [(0, .long l0)] [] (q_K0, z.1, z.2, q_R0) _ _
  unfold F_X7_rootOf at h
  refine q_blk2 (pc2 := 7) (ls2 := [(4, .long 32768), (2, .long 0), (0, .long l0)]) (st2 := []) (h2 := (q_K0, z.1, z.2, q_R0)) [(.lconst 0, 0, 0, 0, 0, 0), (.lstore_n 2, 0, 0, 0, 0, 0), (.ldc2_w 9, 0, 0, 0, 0, 32768), (.lstore 4, 0, 0, 0, 0, 0)] (by decide +kernel) rfl rfl ⟨trivial, trivial, trivial, trivial, trivial⟩ ?_
  obtain ⟨⟨⟨w2, w3, w4, z1⟩, tg6⟩, hl5, h⟩ := Option.bind_eq_some_iff.mp h
  dsimp only at h
  refine q_pick [2, 1, 0] rfl ?_
  refine q_lp_ok (P := fun s => q_Ex _ 48 7 [(0, .long s.1), (2, .long s.2.1), (4, .long s.2.2.1)] [] (q_K0, s.2.2.2.1, s.2.2.2.2, q_R0) _ _) (X := fun u s => (u = 0 → q_Ex _ 48 42 [(0, .long s.1), (2, .long s.2.1), (4, .long s.2.2.1)] [] (q_K0, s.2.2.2.1, s.2.2.2.2, q_R0) _ _)) (fun s s2 t hh k0 kx => b_X7_rootOf_7 hh k0 (fun e => (kx 0 e) rfl)) hl5 ?_
  · intro e_tg6
    subst e_tg6
    rw [if_pos rfl] at h
    show q_Ex _ 48 42 [(0, .long w2), (2, .long w3), (4, .long w4)] [] (q_K0, z1.1, z1.2, q_R0) _ _
    refine q_blk2 (pc2 := 43) (ls2 := [(0, .long w2), (2, .long w3), (4, .long w4)]) (st2 := [.long w3]) (h2 := (q_K0, z1.1, z1.2, q_R0)) [(.lload_n 2, 0, 0, 0, 0, 0)] (by decide +kernel) rfl rfl ⟨trivial, trivial⟩ ?_
    cases h
    exact q_lret rfl (by decide +kernel)
/-- java/lang/Math.max(II)I -/
def F_J9_max_7cf53 (z : q_Z) (l0 : Int32) (l1 : Int32) : Option (Int32 × q_Z) :=
  if l0 < l1 then
    some (l1, z)
  else
    some (l0, z)
set_option maxRecDepth 100000 in
set_option maxHeartbeats 4000000 in
theorem s_J9_max_7cf53 {z zR : q_Z} {l0 : Int32} {l1 : Int32} {rv : Int32} (h : F_J9_max_7cf53 z l0 l1 = some (rv, zR)) : q_Ca 161 [.int l0, .int l1] (q_K0, z.1, z.2, q_R0) (some (.int rv)) (q_K0, zR.1, zR.2, q_R0) := by
  refine q_Ca_of (by decide) (Nat.le_of_ble_eq_true rfl) ?_
  show q_Ex none 161 0 [(0, .int l0), (1, .int l1)] [] (q_K0, z.1, z.2, q_R0) _ _
  unfold F_J9_max_7cf53 at h
  refine q_blk2 (pc2 := 2) (ls2 := [(0, .int l0), (1, .int l1)]) (st2 := [.int l1, .int l0]) (h2 := (q_K0, z.1, z.2, q_R0)) [(.iload_n 0, 0, 0, 0, 0, 0), (.iload_n 1, 0, 0, 0, 0, 0)] (by decide +kernel) rfl rfl ⟨trivial, trivial, trivial⟩ ?_
  refine q_ic_lt (off := 7) (tgt := 9) (by decide +kernel) (by decide) (fun c2_1 => ?_) (fun c2_1 => ?_)
  · rw [if_pos c2_1] at h
    refine q_blk2 (pc2 := 10) (ls2 := [(0, .int l0), (1, .int l1)]) (st2 := [.int l1]) (h2 := (q_K0, z.1, z.2, q_R0)) [(.iload_n 1, 0, 0, 0, 0, 0)] (by decide +kernel) rfl rfl ⟨trivial, trivial⟩ ?_
    cases h
    exact q_iret .int rfl rfl (by decide +kernel)
  · rw [if_neg c2_1] at h
    refine q_blk2 (pc2 := 6) (ls2 := [(0, .int l0), (1, .int l1)]) (st2 := [.int l0]) (h2 := (q_K0, z.1, z.2, q_R0)) [(.iload_n 0, 0, 0, 0, 0, 0)] (by decide +kernel) rfl rfl ⟨trivial, trivial⟩ ?_
    refine q_goto (off := 4) (tgt := 10) (by decide +kernel) (by decide) ?_
    cases h
    exact q_iret .int rfl rfl (by decide +kernel)
/-- java/lang/Math.abs(J)J -/
def F_J9_abs_067f4 (z : q_Z) (l0 : Int64) : Option (Int64 × q_Z) :=
  if (0 : Int64) ≤ l0 then
    some (l0, z)
  else
    some (-l0, z)
set_option maxRecDepth 100000 in
set_option maxHeartbeats 4000000 in
theorem s_J9_abs_067f4 {z zR : q_Z} {l0 : Int64} {rv : Int64} (h : F_J9_abs_067f4 z l0 = some (rv, zR)) : q_Ca 160 [.long l0] (q_K0, z.1, z.2, q_R0) (some (.long rv)) (q_K0, zR.1, zR.2, q_R0) := by
  refine q_Ca_of (by decide) (Nat.le_of_ble_eq_true rfl) ?_
  show q_Ex none 160 0 [(0, .long l0)] [] (q_K0, z.1, z.2, q_R0) _ _
  unfold F_J9_abs_067f4 at h
  refine q_blk2 (pc2 := 2) (ls2 := [(0, .long l0)]) (st2 := [.long 0, .long l0]) (h2 := (q_K0, z.1, z.2, q_R0)) [(.lload_n 0, 0, 0, 0, 0, 0), (.lconst 0, 0, 0, 0, 0, 0)] (by decide +kernel) rfl rfl ⟨trivial, trivial, trivial⟩ ?_
  refine q_lc_ge (off := 8) (tgt := 11) (by decide +kernel) (by decide +kernel) (by decide) (fun c2_1 => ?_) (fun c2_1 => ?_)
  · rw [if_pos c2_1] at h
    refine q_blk2 (pc2 := 12) (ls2 := [(0, .long l0)]) (st2 := [.long l0]) (h2 := (q_K0, z.1, z.2, q_R0)) [(.lload_n 0, 0, 0, 0, 0, 0)] (by decide +kernel) rfl rfl ⟨trivial, trivial⟩ ?_
    cases h
    exact q_lret rfl (by decide +kernel)
  · rw [if_neg c2_1] at h
    refine q_blk2 (pc2 := 8) (ls2 := [(0, .long l0)]) (st2 := [.long (-l0)]) (h2 := (q_K0, z.1, z.2, q_R0)) [(.lload_n 0, 0, 0, 0, 0, 0), (.lneg, 0, 0, 0, 0, 0)] (by decide +kernel) rfl rfl ⟨trivial, trivial, trivial⟩ ?_
    refine q_goto (off := 4) (tgt := 12) (by decide +kernel) (by decide) ?_
    cases h
    exact q_lret rfl (by decide +kernel)
def B_X7_commonDivisor_15 : Int64 × Int64 × Int32 × q_Z → Option ((Int64 × Int64 × Int32 × q_Z) × Nat) := fun (l4, l6, l8, z) =>
  if (100000 : Int32) ≤ l8 then
    some ((l4, l6, l8, z), 1)
  else
    if l6 = (0 : Int64) then
      some ((l4, l6, l8, z), 1)
    else
      if ¬ l6 = (0 : Int64) then
        some ((l6, l4 - l4 / l6 * l6, l8 + 1, z), 0)
      else none
set_option maxRecDepth 100000 in
set_option maxHeartbeats 4000000 in
theorem b_X7_commonDivisor_15 {s s2 : Int64 × Int64 × Int32 × q_Z} {t : Nat} {r : Option Value} {h2 : q_H} (h : B_X7_commonDivisor_15 s = some (s2, t)) (k0 : t = 0 → q_Ex none 50 15 [(4, .long s2.1), (6, .long s2.2.1), (8, .int s2.2.2.1)] [] (q_K0, s2.2.2.2.1, s2.2.2.2.2, q_R0) r h2) (k1 : t = 1 → q_Ex none 50 50 [(4, .long s2.1), (6, .long s2.2.1), (8, .int s2.2.2.1)] [] (q_K0, s2.2.2.2.1, s2.2.2.2.2, q_R0) r h2) : q_Ex none 50 15 [(4, .long s.1), (6, .long s.2.1), (8, .int s.2.2.1)] [] (q_K0, s.2.2.2.1, s.2.2.2.2, q_R0) r h2 := by
  unfold B_X7_commonDivisor_15 at h
  obtain ⟨l4, l6, l8, z⟩ := s
  dsimp only at h
  show q_Ex none 50 15 [(4, .long l4), (6, .long l6), (8, .int l8)] [] (q_K0, z.1, z.2, q_R0) r h2
  refine q_blk2 (pc2 := 19) (ls2 := [(4, .long l4), (6, .long l6), (8, .int l8)]) (st2 := [.int 100000, .int l8]) (h2 := (q_K0, z.1, z.2, q_R0)) [(.iload 8, 0, 0, 0, 0, 0), (.ldc 22, 0, 0, 0, 100000, 0)] (by decide +kernel) rfl rfl ⟨trivial, trivial, trivial⟩ ?_
  refine q_ic_ge (off := 31) (tgt := 50) (by decide +kernel) (by decide) (fun c19_1 => ?_) (fun c19_1 => ?_)
  · rw [if_pos c19_1] at h
    cases h
    refine q_pick [0, 1, 2] rfl ?_
    exact k1 rfl
  · rw [if_neg c19_1] at h
    refine q_blk2 (pc2 := 25) (ls2 := [(4, .long l4), (6, .long l6), (8, .int l8)]) (st2 := [.long 0, .long l6]) (h2 := (q_K0, z.1, z.2, q_R0)) [(.lload 6, 0, 0, 0, 0, 0), (.lconst 0, 0, 0, 0, 0, 0)] (by decide +kernel) rfl rfl ⟨trivial, trivial, trivial⟩ ?_
    refine q_lc_eq (off := 24) (tgt := 50) (by decide +kernel) (by decide +kernel) (by decide) (fun c25_2 => ?_) (fun c25_2 => ?_)
    · rw [if_pos c25_2] at h
      cases h
      refine q_pick [0, 1, 2] rfl ?_
      exact k1 rfl
    · rw [if_neg c25_2] at h
      have b5 : ¬ l6 = (0 : Int64) := by
        by_cases q : ¬ l6 = (0 : Int64)
        · exact q
        · rw [if_neg q] at h; cases h
      rw [if_pos b5] at h
      refine q_blk2 (pc2 := 47) (ls2 := [(8, .int (l8 + 1)), (6, .long (l4 - l4 / l6 * l6)), (4, .long l6), (9, .long (l4 - l4 / l6 * l6))]) (st2 := []) (h2 := (q_K0, z.1, z.2, q_R0)) [(.lload 4, 0, 0, 0, 0, 0), (.lload 6, 0, 0, 0, 0, 0), (.lrem, 0, 0, 0, 0, 0), (.lstore 9, 0, 0, 0, 0, 0), (.lload 6, 0, 0, 0, 0, 0), (.lstore 4, 0, 0, 0, 0, 0), (.lload 9, 0, 0, 0, 0, 0), (.lstore 6, 0, 0, 0, 0, 0), (.iinc 8 1, 0, 0, 0, 1, 0)] (by decide +kernel) rfl rfl ⟨trivial, trivial, b5, trivial, trivial, trivial, trivial, trivial, trivial, trivial⟩ ?_
      refine q_goto (off := -32) (tgt := 15) (by decide +kernel) (by decide) ?_
      cases h
      refine q_pick [2, 1, 0] rfl ?_
      exact k0 rfl
def T_X7_commonDivisor_50 (z : q_Z) (l4 : Int64) : Option (Int64 × q_Z) :=
  some (l4, z)
set_option maxRecDepth 100000 in
set_option maxHeartbeats 4000000 in
theorem t_X7_commonDivisor_50 {z zR : q_Z} {l4 : Int64} {rv : Int64} (h : T_X7_commonDivisor_50 z l4 = some (rv, zR)) : q_Ex none 50 50 [(4, .long l4)] [] (q_K0, z.1, z.2, q_R0) (some (.long rv)) (q_K0, zR.1, zR.2, q_R0) := by
  unfold T_X7_commonDivisor_50 at h
  refine q_blk2 (pc2 := 52) (ls2 := [(4, .long l4)]) (st2 := [.long l4]) (h2 := (q_K0, z.1, z.2, q_R0)) [(.lload 4, 0, 0, 0, 0, 0)] (by decide +kernel) rfl rfl ⟨trivial, trivial⟩ ?_
  cases h
  exact q_lret rfl (by decide +kernel)
/-- RootForms$Sums.commonDivisor(JJ)J -/
def F_X7_commonDivisor (z : q_Z) (l0 : Int64) (l2 : Int64) : Option (Int64 × q_Z) :=
  (F_J9_abs_067f4 z l0).bind fun (r1, z2) =>
    (F_J9_abs_067f4 z2 l2).bind fun (r3, z4) =>
      (q_lp (B_X7_commonDivisor_15) q_fu (r1, r3, 0, z4)).bind fun ((w7, w8, w9, z6), tg) =>
        if tg = 0 then
          T_X7_commonDivisor_50 z6 w7
        else none
set_option maxRecDepth 100000 in
set_option maxHeartbeats 4000000 in
theorem s_X7_commonDivisor {z zR : q_Z} {l0 : Int64} {l2 : Int64} {rv : Int64} (h : F_X7_commonDivisor z l0 l2 = some (rv, zR)) : q_Ca 50 [.long l0, .long l2] (q_K0, z.1, z.2, q_R0) (some (.long rv)) (q_K0, zR.1, zR.2, q_R0) := by
  refine q_Ca_of (by decide) (Nat.le_of_ble_eq_true rfl) ?_
  show q_Ex none 50 0 [(0, .long l0), (2, .long l2)] [] (q_K0, z.1, z.2, q_R0) _ _
  unfold F_X7_commonDivisor at h
  refine q_blk2 (pc2 := 1) (ls2 := [(0, .long l0), (2, .long l2)]) (st2 := [.long l0]) (h2 := (q_K0, z.1, z.2, q_R0)) [(.lload_n 0, 0, 0, 0, 0, 0)] (by decide +kernel) rfl rfl ⟨trivial, trivial⟩ ?_
  obtain ⟨⟨r1, z2⟩, hc10, h⟩ := Option.bind_eq_some_iff.mp h
  dsimp only at h
  refine q_cS1 (idx := 17) (v := .long r1) (h1 := (q_K0, z2.1, z2.2, q_R0)) [.long l0] 160 [.long l0] [] rfl (by decide +kernel) (by decide +kernel) rfl (Nat.le_of_ble_eq_true rfl) (by decide +kernel) (s_J9_abs_067f4 hc10) ?_
  refine q_blk2 (pc2 := 7) (ls2 := [(4, .long r1), (0, .long l0), (2, .long l2)]) (st2 := [.long l2]) (h2 := (q_K0, z2.1, z2.2, q_R0)) [(.lstore 4, 0, 0, 0, 0, 0), (.lload_n 2, 0, 0, 0, 0, 0)] (by decide +kernel) rfl rfl ⟨trivial, trivial, trivial⟩ ?_
  obtain ⟨⟨r3, z4⟩, hc11, h⟩ := Option.bind_eq_some_iff.mp h
  dsimp only at h
  refine q_cS1 (idx := 17) (v := .long r3) (h1 := (q_K0, z4.1, z4.2, q_R0)) [.long l2] 160 [.long l2] [] rfl (by decide +kernel) (by decide +kernel) rfl (Nat.le_of_ble_eq_true rfl) (by decide +kernel) (s_J9_abs_067f4 hc11) ?_
  refine q_blk2 (pc2 := 15) (ls2 := [(8, .int 0), (6, .long r3), (4, .long r1), (0, .long l0), (2, .long l2)]) (st2 := []) (h2 := (q_K0, z4.1, z4.2, q_R0)) [(.lstore 6, 0, 0, 0, 0, 0), (.iconst 0, 0, 0, 0, 0, 0), (.istore 8, 0, 0, 0, 0, 0)] (by decide +kernel) rfl rfl ⟨trivial, trivial, trivial, trivial⟩ ?_
  obtain ⟨⟨⟨w7, w8, w9, z6⟩, tg13⟩, hl12, h⟩ := Option.bind_eq_some_iff.mp h
  dsimp only at h
  refine q_pick [2, 1, 0] rfl ?_
  refine q_lp_ok (P := fun s => q_Ex _ 50 15 [(4, .long s.1), (6, .long s.2.1), (8, .int s.2.2.1)] [] (q_K0, s.2.2.2.1, s.2.2.2.2, q_R0) _ _) (X := fun u s => (u = 0 → q_Ex _ 50 50 [(4, .long s.1), (6, .long s.2.1), (8, .int s.2.2.1)] [] (q_K0, s.2.2.2.1, s.2.2.2.2, q_R0) _ _)) (fun s s2 t hh k0 kx => b_X7_commonDivisor_15 hh k0 (fun e => (kx 0 e) rfl)) hl12 ?_
  · intro e_tg13
    subst e_tg13
    rw [if_pos rfl] at h
    show q_Ex _ 50 50 [(4, .long w7), (6, .long w8), (8, .int w9)] [] (q_K0, z6.1, z6.2, q_R0) _ _
    refine q_pick [0] rfl ?_
    exact t_X7_commonDivisor_50 h
def T_J9_floorMod_f86c9_25 (z : q_Z) (l4 : Int64) : Option (Int64 × q_Z) :=
  some (l4, z)
set_option maxRecDepth 100000 in
set_option maxHeartbeats 4000000 in
theorem t_J9_floorMod_f86c9_25 {z zR : q_Z} {l4 : Int64} {rv : Int64} (h : T_J9_floorMod_f86c9_25 z l4 = some (rv, zR)) : q_Ex none 158 25 [(4, .long l4)] [] (q_K0, z.1, z.2, q_R0) (some (.long rv)) (q_K0, zR.1, zR.2, q_R0) := by
  unfold T_J9_floorMod_f86c9_25 at h
  refine q_blk2 (pc2 := 27) (ls2 := [(4, .long l4)]) (st2 := [.long l4]) (h2 := (q_K0, z.1, z.2, q_R0)) [(.lload 4, 0, 0, 0, 0, 0)] (by decide +kernel) rfl rfl ⟨trivial, trivial⟩ ?_
  cases h
  exact q_lret rfl (by decide +kernel)
/-- java/lang/Math.floorMod(JJ)J -/
def F_J9_floorMod_f86c9 (z : q_Z) (l0 : Int64) (l2 : Int64) : Option (Int64 × q_Z) :=
  if ¬ l2 = (0 : Int64) then
    if (0 : Int64) ≤ (l0 ^^^ l2) then
      T_J9_floorMod_f86c9_25 z (l0 - l0 / l2 * l2)
    else
      if (l0 - l0 / l2 * l2) = (0 : Int64) then
        T_J9_floorMod_f86c9_25 z (l0 - l0 / l2 * l2)
      else
        some ((l0 - l0 / l2 * l2) + l2, z)
  else none
set_option maxRecDepth 100000 in
set_option maxHeartbeats 4000000 in
theorem s_J9_floorMod_f86c9 {z zR : q_Z} {l0 : Int64} {l2 : Int64} {rv : Int64} (h : F_J9_floorMod_f86c9 z l0 l2 = some (rv, zR)) : q_Ca 158 [.long l0, .long l2] (q_K0, z.1, z.2, q_R0) (some (.long rv)) (q_K0, zR.1, zR.2, q_R0) := by
  refine q_Ca_of (by decide) (Nat.le_of_ble_eq_true rfl) ?_
  show q_Ex none 158 0 [(0, .long l0), (2, .long l2)] [] (q_K0, z.1, z.2, q_R0) _ _
  unfold F_J9_floorMod_f86c9 at h
  have b1 : ¬ l2 = (0 : Int64) := by
    by_cases q : ¬ l2 = (0 : Int64)
    · exact q
    · rw [if_neg q] at h; cases h
  rw [if_pos b1] at h
  refine q_blk2 (pc2 := 9) (ls2 := [(4, .long (l0 - l0 / l2 * l2)), (0, .long l0), (2, .long l2)]) (st2 := [.long 0, .long (l0 ^^^ l2)]) (h2 := (q_K0, z.1, z.2, q_R0)) [(.lload_n 0, 0, 0, 0, 0, 0), (.lload_n 2, 0, 0, 0, 0, 0), (.lrem, 0, 0, 0, 0, 0), (.lstore 4, 0, 0, 0, 0, 0), (.lload_n 0, 0, 0, 0, 0, 0), (.lload_n 2, 0, 0, 0, 0, 0), (.lxor, 0, 0, 0, 0, 0), (.lconst 0, 0, 0, 0, 0, 0)] (by decide +kernel) rfl rfl ⟨trivial, trivial, b1, trivial, trivial, trivial, trivial, trivial, trivial⟩ ?_
  refine q_lc_ge (off := 15) (tgt := 25) (by decide +kernel) (by decide +kernel) (by decide) (fun c9_1 => ?_) (fun c9_1 => ?_)
  · rw [if_pos c9_1] at h
    refine q_pick [0] rfl ?_
    exact t_J9_floorMod_f86c9_25 h
  · rw [if_neg c9_1] at h
    refine q_blk2 (pc2 := 16) (ls2 := [(4, .long (l0 - l0 / l2 * l2)), (0, .long l0), (2, .long l2)]) (st2 := [.long 0, .long (l0 - l0 / l2 * l2)]) (h2 := (q_K0, z.1, z.2, q_R0)) [(.lload 4, 0, 0, 0, 0, 0), (.lconst 0, 0, 0, 0, 0, 0)] (by decide +kernel) rfl rfl ⟨trivial, trivial, trivial⟩ ?_
    refine q_lc_eq (off := 8) (tgt := 25) (by decide +kernel) (by decide +kernel) (by decide) (fun c16_2 => ?_) (fun c16_2 => ?_)
    · rw [if_pos c16_2] at h
      refine q_pick [0] rfl ?_
      exact t_J9_floorMod_f86c9_25 h
    · rw [if_neg c16_2] at h
      refine q_blk2 (pc2 := 24) (ls2 := [(4, .long (l0 - l0 / l2 * l2)), (0, .long l0), (2, .long l2)]) (st2 := [.long ((l0 - l0 / l2 * l2) + l2)]) (h2 := (q_K0, z.1, z.2, q_R0)) [(.lload 4, 0, 0, 0, 0, 0), (.lload_n 2, 0, 0, 0, 0, 0), (.ladd, 0, 0, 0, 0, 0)] (by decide +kernel) rfl rfl ⟨trivial, trivial, trivial, trivial⟩ ?_
      cases h
      exact q_lret rfl (by decide +kernel)
/-- java/lang/Math.min(II)I -/
def F_J9_min_7cf53 (z : q_Z) (l0 : Int32) (l1 : Int32) : Option (Int32 × q_Z) :=
  if l1 < l0 then
    some (l1, z)
  else
    some (l0, z)
set_option maxRecDepth 100000 in
set_option maxHeartbeats 4000000 in
theorem s_J9_min_7cf53 {z zR : q_Z} {l0 : Int32} {l1 : Int32} {rv : Int32} (h : F_J9_min_7cf53 z l0 l1 = some (rv, zR)) : q_Ca 162 [.int l0, .int l1] (q_K0, z.1, z.2, q_R0) (some (.int rv)) (q_K0, zR.1, zR.2, q_R0) := by
  refine q_Ca_of (by decide) (Nat.le_of_ble_eq_true rfl) ?_
  show q_Ex none 162 0 [(0, .int l0), (1, .int l1)] [] (q_K0, z.1, z.2, q_R0) _ _
  unfold F_J9_min_7cf53 at h
  refine q_blk2 (pc2 := 2) (ls2 := [(0, .int l0), (1, .int l1)]) (st2 := [.int l1, .int l0]) (h2 := (q_K0, z.1, z.2, q_R0)) [(.iload_n 0, 0, 0, 0, 0, 0), (.iload_n 1, 0, 0, 0, 0, 0)] (by decide +kernel) rfl rfl ⟨trivial, trivial, trivial⟩ ?_
  refine q_ic_gt (off := 7) (tgt := 9) (by decide +kernel) (by decide) (fun c2_1 => ?_) (fun c2_1 => ?_)
  · rw [if_pos c2_1] at h
    refine q_blk2 (pc2 := 10) (ls2 := [(0, .int l0), (1, .int l1)]) (st2 := [.int l1]) (h2 := (q_K0, z.1, z.2, q_R0)) [(.iload_n 1, 0, 0, 0, 0, 0)] (by decide +kernel) rfl rfl ⟨trivial, trivial⟩ ?_
    cases h
    exact q_iret .int rfl rfl (by decide +kernel)
  · rw [if_neg c2_1] at h
    refine q_blk2 (pc2 := 6) (ls2 := [(0, .int l0), (1, .int l1)]) (st2 := [.int l0]) (h2 := (q_K0, z.1, z.2, q_R0)) [(.iload_n 0, 0, 0, 0, 0, 0)] (by decide +kernel) rfl rfl ⟨trivial, trivial⟩ ?_
    refine q_goto (off := 4) (tgt := 10) (by decide +kernel) (by decide) ?_
    cases h
    exact q_iret .int rfl rfl (by decide +kernel)
def B_X7_factorToDivisor_27 : Int64 × Int64 × Int64 × Int64 × Int32 × q_Z → Option ((Int64 × Int64 × Int64 × Int64 × Int32 × q_Z) × Nat) := fun (l4, l6, l8, l10, l12, z) =>
  if (100000 : Int32) ≤ l12 then
    some ((l4, l6, l8, l10, l12, z), 1)
  else
    if l6 = (0 : Int64) then
      some ((l4, l6, l8, l10, l12, z), 1)
    else
      if ¬ l6 = (0 : Int64) then
        some ((l6, l4 - ((l4 / l6) * l6), l10, l8 - ((l4 / l6) * l10), l12 + 1, z), 0)
      else none
set_option maxRecDepth 100000 in
set_option maxHeartbeats 4000000 in
theorem b_X7_factorToDivisor_27 {s s2 : Int64 × Int64 × Int64 × Int64 × Int32 × q_Z} {t : Nat} {r : Option Value} {h2 : q_H} (h : B_X7_factorToDivisor_27 s = some (s2, t)) (k0 : t = 0 → q_Ex none 51 27 [(4, .long s2.1), (6, .long s2.2.1), (8, .long s2.2.2.1), (10, .long s2.2.2.2.1), (12, .int s2.2.2.2.2.1)] [] (q_K0, s2.2.2.2.2.2.1, s2.2.2.2.2.2.2, q_R0) r h2) (k1 : t = 1 → q_Ex none 51 90 [(4, .long s2.1), (6, .long s2.2.1), (8, .long s2.2.2.1), (10, .long s2.2.2.2.1), (12, .int s2.2.2.2.2.1)] [] (q_K0, s2.2.2.2.2.2.1, s2.2.2.2.2.2.2, q_R0) r h2) : q_Ex none 51 27 [(4, .long s.1), (6, .long s.2.1), (8, .long s.2.2.1), (10, .long s.2.2.2.1), (12, .int s.2.2.2.2.1)] [] (q_K0, s.2.2.2.2.2.1, s.2.2.2.2.2.2, q_R0) r h2 := by
  unfold B_X7_factorToDivisor_27 at h
  obtain ⟨l4, l6, l8, l10, l12, z⟩ := s
  dsimp only at h
  show q_Ex none 51 27 [(4, .long l4), (6, .long l6), (8, .long l8), (10, .long l10), (12, .int l12)] [] (q_K0, z.1, z.2, q_R0) r h2
  refine q_blk2 (pc2 := 31) (ls2 := [(4, .long l4), (6, .long l6), (8, .long l8), (10, .long l10), (12, .int l12)]) (st2 := [.int 100000, .int l12]) (h2 := (q_K0, z.1, z.2, q_R0)) [(.iload 12, 0, 0, 0, 0, 0), (.ldc 22, 0, 0, 0, 100000, 0)] (by decide +kernel) rfl rfl ⟨trivial, trivial, trivial⟩ ?_
  refine q_ic_ge (off := 59) (tgt := 90) (by decide +kernel) (by decide) (fun c31_1 => ?_) (fun c31_1 => ?_)
  · rw [if_pos c31_1] at h
    cases h
    refine q_pick [0, 1, 2, 3, 4] rfl ?_
    exact k1 rfl
  · rw [if_neg c31_1] at h
    refine q_blk2 (pc2 := 37) (ls2 := [(4, .long l4), (6, .long l6), (8, .long l8), (10, .long l10), (12, .int l12)]) (st2 := [.long 0, .long l6]) (h2 := (q_K0, z.1, z.2, q_R0)) [(.lload 6, 0, 0, 0, 0, 0), (.lconst 0, 0, 0, 0, 0, 0)] (by decide +kernel) rfl rfl ⟨trivial, trivial, trivial⟩ ?_
    refine q_lc_eq (off := 52) (tgt := 90) (by decide +kernel) (by decide +kernel) (by decide) (fun c37_2 => ?_) (fun c37_2 => ?_)
    · rw [if_pos c37_2] at h
      cases h
      refine q_pick [0, 1, 2, 3, 4] rfl ?_
      exact k1 rfl
    · rw [if_neg c37_2] at h
      have b3 : ¬ l6 = (0 : Int64) := by
        by_cases q : ¬ l6 = (0 : Int64)
        · exact q
        · rw [if_neg q] at h; cases h
      rw [if_pos b3] at h
      refine q_blk2 (pc2 := 87) (ls2 := [(12, .int (l12 + 1)), (10, .long (l8 - ((l4 / l6) * l10))), (8, .long l10), (6, .long (l4 - ((l4 / l6) * l6))), (4, .long l6), (17, .long (l8 - ((l4 / l6) * l10))), (15, .long (l4 - ((l4 / l6) * l6))), (13, .long (l4 / l6))]) (st2 := []) (h2 := (q_K0, z.1, z.2, q_R0)) [(.lload 4, 0, 0, 0, 0, 0), (.lload 6, 0, 0, 0, 0, 0), (.ldiv, 0, 0, 0, 0, 0), (.lstore 13, 0, 0, 0, 0, 0), (.lload 4, 0, 0, 0, 0, 0), (.lload 13, 0, 0, 0, 0, 0), (.lload 6, 0, 0, 0, 0, 0), (.lmul, 0, 0, 0, 0, 0), (.lsub, 0, 0, 0, 0, 0), (.lstore 15, 0, 0, 0, 0, 0), (.lload 8, 0, 0, 0, 0, 0), (.lload 13, 0, 0, 0, 0, 0), (.lload 10, 0, 0, 0, 0, 0), (.lmul, 0, 0, 0, 0, 0), (.lsub, 0, 0, 0, 0, 0), (.lstore 17, 0, 0, 0, 0, 0), (.lload 6, 0, 0, 0, 0, 0), (.lstore 4, 0, 0, 0, 0, 0), (.lload 15, 0, 0, 0, 0, 0), (.lstore 6, 0, 0, 0, 0, 0), (.lload 10, 0, 0, 0, 0, 0), (.lstore 8, 0, 0, 0, 0, 0), (.lload 17, 0, 0, 0, 0, 0), (.lstore 10, 0, 0, 0, 0, 0), (.iinc 12 1, 0, 0, 0, 1, 0)] (by decide +kernel) rfl rfl ⟨trivial, trivial, b3, trivial, trivial, trivial, trivial, trivial, trivial, trivial, trivial, trivial, trivial, trivial, trivial, trivial, trivial, trivial, trivial, trivial, trivial, trivial, trivial, trivial, trivial, trivial⟩ ?_
      refine q_goto (off := -60) (tgt := 27) (by decide +kernel) (by decide) ?_
      cases h
      refine q_pick [4, 3, 2, 1, 0] rfl ?_
      exact k0 rfl
def T_X7_factorToDivisor_90 (z : q_Z) (l8 : Int64) : Option (Int64 × q_Z) :=
  some (l8, z)
set_option maxRecDepth 100000 in
set_option maxHeartbeats 4000000 in
theorem t_X7_factorToDivisor_90 {z zR : q_Z} {l8 : Int64} {rv : Int64} (h : T_X7_factorToDivisor_90 z l8 = some (rv, zR)) : q_Ex none 51 90 [(8, .long l8)] [] (q_K0, z.1, z.2, q_R0) (some (.long rv)) (q_K0, zR.1, zR.2, q_R0) := by
  unfold T_X7_factorToDivisor_90 at h
  refine q_blk2 (pc2 := 92) (ls2 := [(8, .long l8)]) (st2 := [.long l8]) (h2 := (q_K0, z.1, z.2, q_R0)) [(.lload 8, 0, 0, 0, 0, 0)] (by decide +kernel) rfl rfl ⟨trivial, trivial⟩ ?_
  cases h
  exact q_lret rfl (by decide +kernel)
/-- RootForms$Sums.factorToDivisor(JJ)J -/
def F_X7_factorToDivisor (z : q_Z) (l0 : Int64) (l2 : Int64) : Option (Int64 × q_Z) :=
  if (0 : Int64) < l2 then
    (F_J9_floorMod_f86c9 z l0 l2).bind fun (r1, z2) =>
      (q_lp (B_X7_factorToDivisor_27) q_fu (l2, r1, 0, 1, 0, z2)).bind fun ((w5, w6, w7, w8, w9, z4), tg) =>
        if tg = 0 then
          T_X7_factorToDivisor_90 z4 w7
        else none
  else
    some (0, z)
set_option maxRecDepth 100000 in
set_option maxHeartbeats 4000000 in
theorem s_X7_factorToDivisor {z zR : q_Z} {l0 : Int64} {l2 : Int64} {rv : Int64} (h : F_X7_factorToDivisor z l0 l2 = some (rv, zR)) : q_Ca 51 [.long l0, .long l2] (q_K0, z.1, z.2, q_R0) (some (.long rv)) (q_K0, zR.1, zR.2, q_R0) := by
  refine q_Ca_of (by decide) (Nat.le_of_ble_eq_true rfl) ?_
  show q_Ex none 51 0 [(0, .long l0), (2, .long l2)] [] (q_K0, z.1, z.2, q_R0) _ _
  unfold F_X7_factorToDivisor at h
  refine q_blk2 (pc2 := 2) (ls2 := [(0, .long l0), (2, .long l2)]) (st2 := [.long 0, .long l2]) (h2 := (q_K0, z.1, z.2, q_R0)) [(.lload_n 2, 0, 0, 0, 0, 0), (.lconst 0, 0, 0, 0, 0, 0)] (by decide +kernel) rfl rfl ⟨trivial, trivial, trivial⟩ ?_
  refine q_lc_gt (off := 5) (tgt := 8) (by decide +kernel) (by decide +kernel) (by decide) (fun c2_1 => ?_) (fun c2_1 => ?_)
  · rw [if_pos c2_1] at h
    refine q_blk2 (pc2 := 13) (ls2 := [(4, .long l2), (0, .long l0), (2, .long l2)]) (st2 := [.long l2, .long l0]) (h2 := (q_K0, z.1, z.2, q_R0)) [(.lload_n 2, 0, 0, 0, 0, 0), (.lstore 4, 0, 0, 0, 0, 0), (.lload_n 0, 0, 0, 0, 0, 0), (.lload_n 2, 0, 0, 0, 0, 0)] (by decide +kernel) rfl rfl ⟨trivial, trivial, trivial, trivial, trivial⟩ ?_
    obtain ⟨⟨r1, z2⟩, hc10, h⟩ := Option.bind_eq_some_iff.mp h
    dsimp only at h
    refine q_cS1 (idx := 23) (v := .long r1) (h1 := (q_K0, z2.1, z2.2, q_R0)) [.long l2, .long l0] 158 [.long l0, .long l2] [] rfl (by decide +kernel) (by decide +kernel) rfl (Nat.le_of_ble_eq_true rfl) (by decide +kernel) (s_J9_floorMod_f86c9 hc10) ?_
    refine q_blk2 (pc2 := 27) (ls2 := [(12, .int 0), (10, .long 1), (8, .long 0), (6, .long r1), (4, .long l2), (0, .long l0), (2, .long l2)]) (st2 := []) (h2 := (q_K0, z2.1, z2.2, q_R0)) [(.lstore 6, 0, 0, 0, 0, 0), (.lconst 0, 0, 0, 0, 0, 0), (.lstore 8, 0, 0, 0, 0, 0), (.lconst 1, 0, 0, 0, 0, 1), (.lstore 10, 0, 0, 0, 0, 0), (.iconst 0, 0, 0, 0, 0, 0), (.istore 12, 0, 0, 0, 0, 0)] (by decide +kernel) rfl rfl ⟨trivial, trivial, trivial, trivial, trivial, trivial, trivial, trivial⟩ ?_
    obtain ⟨⟨⟨w5, w6, w7, w8, w9, z4⟩, tg12⟩, hl11, h⟩ := Option.bind_eq_some_iff.mp h
    dsimp only at h
    refine q_pick [4, 3, 2, 1, 0] rfl ?_
    refine q_lp_ok (P := fun s => q_Ex _ 51 27 [(4, .long s.1), (6, .long s.2.1), (8, .long s.2.2.1), (10, .long s.2.2.2.1), (12, .int s.2.2.2.2.1)] [] (q_K0, s.2.2.2.2.2.1, s.2.2.2.2.2.2, q_R0) _ _) (X := fun u s => (u = 0 → q_Ex _ 51 90 [(4, .long s.1), (6, .long s.2.1), (8, .long s.2.2.1), (10, .long s.2.2.2.1), (12, .int s.2.2.2.2.1)] [] (q_K0, s.2.2.2.2.2.1, s.2.2.2.2.2.2, q_R0) _ _)) (fun s s2 t hh k0 kx => b_X7_factorToDivisor_27 hh k0 (fun e => (kx 0 e) rfl)) hl11 ?_
    · intro e_tg12
      subst e_tg12
      rw [if_pos rfl] at h
      show q_Ex _ 51 90 [(4, .long w5), (6, .long w6), (8, .long w7), (10, .long w8), (12, .int w9)] [] (q_K0, z4.1, z4.2, q_R0) _ _
      refine q_pick [2] rfl ?_
      exact t_X7_factorToDivisor_90 h
  · rw [if_neg c2_1] at h
    refine q_blk2 (pc2 := 7) (ls2 := [(0, .long l0), (2, .long l2)]) (st2 := [.long 0]) (h2 := (q_K0, z.1, z.2, q_R0)) [(.lconst 0, 0, 0, 0, 0, 0)] (by decide +kernel) rfl rfl ⟨trivial, trivial⟩ ?_
    cases h
    exact q_lret rfl (by decide +kernel)
def T_J9_floorMod_7cf53_18 (z : q_Z) (l2 : Int32) : Option (Int32 × q_Z) :=
  some (l2, z)
set_option maxRecDepth 100000 in
set_option maxHeartbeats 4000000 in
theorem t_J9_floorMod_7cf53_18 {z zR : q_Z} {l2 : Int32} {rv : Int32} (h : T_J9_floorMod_7cf53_18 z l2 = some (rv, zR)) : q_Ex none 157 18 [(2, .int l2)] [] (q_K0, z.1, z.2, q_R0) (some (.int rv)) (q_K0, zR.1, zR.2, q_R0) := by
  unfold T_J9_floorMod_7cf53_18 at h
  refine q_blk2 (pc2 := 19) (ls2 := [(2, .int l2)]) (st2 := [.int l2]) (h2 := (q_K0, z.1, z.2, q_R0)) [(.iload_n 2, 0, 0, 0, 0, 0)] (by decide +kernel) rfl rfl ⟨trivial, trivial⟩ ?_
  cases h
  exact q_iret .int rfl rfl (by decide +kernel)
/-- java/lang/Math.floorMod(II)I -/
def F_J9_floorMod_7cf53 (z : q_Z) (l0 : Int32) (l1 : Int32) : Option (Int32 × q_Z) :=
  if ¬ l1 = (0 : Int32) then
    if (0 : Int32) ≤ (l0 ^^^ l1) then
      T_J9_floorMod_7cf53_18 z (l0 - l0 / l1 * l1)
    else
      if (l0 - l0 / l1 * l1) = (0 : Int32) then
        T_J9_floorMod_7cf53_18 z (l0 - l0 / l1 * l1)
      else
        some ((l0 - l0 / l1 * l1) + l1, z)
  else none
set_option maxRecDepth 100000 in
set_option maxHeartbeats 4000000 in
theorem s_J9_floorMod_7cf53 {z zR : q_Z} {l0 : Int32} {l1 : Int32} {rv : Int32} (h : F_J9_floorMod_7cf53 z l0 l1 = some (rv, zR)) : q_Ca 157 [.int l0, .int l1] (q_K0, z.1, z.2, q_R0) (some (.int rv)) (q_K0, zR.1, zR.2, q_R0) := by
  refine q_Ca_of (by decide) (Nat.le_of_ble_eq_true rfl) ?_
  show q_Ex none 157 0 [(0, .int l0), (1, .int l1)] [] (q_K0, z.1, z.2, q_R0) _ _
  unfold F_J9_floorMod_7cf53 at h
  have b1 : ¬ l1 = (0 : Int32) := by
    by_cases q : ¬ l1 = (0 : Int32)
    · exact q
    · rw [if_neg q] at h; cases h
  rw [if_pos b1] at h
  refine q_blk2 (pc2 := 7) (ls2 := [(2, .int (l0 - l0 / l1 * l1)), (0, .int l0), (1, .int l1)]) (st2 := [.int (l0 ^^^ l1)]) (h2 := (q_K0, z.1, z.2, q_R0)) [(.iload_n 0, 0, 0, 0, 0, 0), (.iload_n 1, 0, 0, 0, 0, 0), (.irem, 0, 0, 0, 0, 0), (.istore_n 2, 0, 0, 0, 0, 0), (.iload_n 0, 0, 0, 0, 0, 0), (.iload_n 1, 0, 0, 0, 0, 0), (.ixor, 0, 0, 0, 0, 0)] (by decide +kernel) rfl rfl ⟨trivial, trivial, b1, trivial, trivial, trivial, trivial, trivial⟩ ?_
  refine q_if_ge (off := 11) (tgt := 18) (by decide +kernel) (by decide) (fun c7_1 => ?_) (fun c7_1 => ?_)
  · rw [if_pos c7_1] at h
    refine q_pick [0] rfl ?_
    exact t_J9_floorMod_7cf53_18 h
  · rw [if_neg c7_1] at h
    refine q_blk2 (pc2 := 11) (ls2 := [(2, .int (l0 - l0 / l1 * l1)), (0, .int l0), (1, .int l1)]) (st2 := [.int (l0 - l0 / l1 * l1)]) (h2 := (q_K0, z.1, z.2, q_R0)) [(.iload_n 2, 0, 0, 0, 0, 0)] (by decide +kernel) rfl rfl ⟨trivial, trivial⟩ ?_
    refine q_if_eq (off := 7) (tgt := 18) (by decide +kernel) (by decide) (fun c11_2 => ?_) (fun c11_2 => ?_)
    · rw [if_pos c11_2] at h
      refine q_pick [0] rfl ?_
      exact t_J9_floorMod_7cf53_18 h
    · rw [if_neg c11_2] at h
      refine q_blk2 (pc2 := 17) (ls2 := [(2, .int (l0 - l0 / l1 * l1)), (0, .int l0), (1, .int l1)]) (st2 := [.int ((l0 - l0 / l1 * l1) + l1)]) (h2 := (q_K0, z.1, z.2, q_R0)) [(.iload_n 2, 0, 0, 0, 0, 0), (.iload_n 1, 0, 0, 0, 0, 0), (.iadd, 0, 0, 0, 0, 0)] (by decide +kernel) rfl rfl ⟨trivial, trivial, trivial, trivial⟩ ?_
      cases h
      exact q_iret .int rfl rfl (by decide +kernel)
/-- RootForms$Sums.isSquare(J)Z -/
def F_X7_isSquare (z : q_Z) (l0 : Int64) : Option (Int32 × q_Z) :=
  (F_X7_rootOf z l0).bind fun (r1, z2) =>
    if (r1 * r1) = l0 then
      some (1, z2)
    else
      some (0, z2)
set_option maxRecDepth 100000 in
set_option maxHeartbeats 4000000 in
theorem s_X7_isSquare {z zR : q_Z} {l0 : Int64} {rv : Int32} (h : F_X7_isSquare z l0 = some (rv, zR)) : q_Ca 49 [.long l0] (q_K0, z.1, z.2, q_R0) (some (.int rv)) (q_K0, zR.1, zR.2, q_R0) := by
  refine q_Ca_of (by decide) (Nat.le_of_ble_eq_true rfl) ?_
  show q_Ex none 49 0 [(0, .long l0)] [] (q_K0, z.1, z.2, q_R0) _ _
  unfold F_X7_isSquare at h
  refine q_blk2 (pc2 := 1) (ls2 := [(0, .long l0)]) (st2 := [.long l0]) (h2 := (q_K0, z.1, z.2, q_R0)) [(.lload_n 0, 0, 0, 0, 0, 0)] (by decide +kernel) rfl rfl ⟨trivial, trivial⟩ ?_
  obtain ⟨⟨r1, z2⟩, hc3, h⟩ := Option.bind_eq_some_iff.mp h
  dsimp only at h
  refine q_cS1 (idx := 11) (v := .long r1) (h1 := (q_K0, z2.1, z2.2, q_R0)) [.long l0] 48 [.long l0] [] rfl (by decide +kernel) (by decide +kernel) rfl (Nat.le_of_ble_eq_true rfl) (by decide +kernel) (s_X7_rootOf hc3) ?_
  refine q_blk2 (pc2 := 9) (ls2 := [(2, .long r1), (0, .long l0)]) (st2 := [.long l0, .long (r1 * r1)]) (h2 := (q_K0, z2.1, z2.2, q_R0)) [(.lstore_n 2, 0, 0, 0, 0, 0), (.lload_n 2, 0, 0, 0, 0, 0), (.lload_n 2, 0, 0, 0, 0, 0), (.lmul, 0, 0, 0, 0, 0), (.lload_n 0, 0, 0, 0, 0, 0)] (by decide +kernel) rfl rfl ⟨trivial, trivial, trivial, trivial, trivial, trivial⟩ ?_
  refine q_lc_ne (off := 7) (tgt := 17) (by decide +kernel) (by decide +kernel) (by decide) (fun c9_1 => ?_) (fun c9_1 => ?_)
  · rw [if_neg c9_1] at h
    refine q_blk2 (pc2 := 18) (ls2 := [(2, .long r1), (0, .long l0)]) (st2 := [.int 0]) (h2 := (q_K0, z2.1, z2.2, q_R0)) [(.iconst 0, 0, 0, 0, 0, 0)] (by decide +kernel) rfl rfl ⟨trivial, trivial⟩ ?_
    cases h
    exact q_iret .boolean rfl rfl (by decide +kernel)
  · rw [if_pos c9_1] at h
    refine q_blk2 (pc2 := 14) (ls2 := [(2, .long r1), (0, .long l0)]) (st2 := [.int 1]) (h2 := (q_K0, z2.1, z2.2, q_R0)) [(.iconst 1, 0, 0, 0, 1, 0)] (by decide +kernel) rfl rfl ⟨trivial, trivial⟩ ?_
    refine q_goto (off := 4) (tgt := 18) (by decide +kernel) (by decide) ?_
    cases h
    exact q_iret .boolean rfl rfl (by decide +kernel)
/-- java/lang/Math.abs(I)I -/
def F_J9_abs_0f7a4 (z : q_Z) (l0 : Int32) : Option (Int32 × q_Z) :=
  if (0 : Int32) ≤ l0 then
    some (l0, z)
  else
    some (-l0, z)
set_option maxRecDepth 100000 in
set_option maxHeartbeats 4000000 in
theorem s_J9_abs_0f7a4 {z zR : q_Z} {l0 : Int32} {rv : Int32} (h : F_J9_abs_0f7a4 z l0 = some (rv, zR)) : q_Ca 159 [.int l0] (q_K0, z.1, z.2, q_R0) (some (.int rv)) (q_K0, zR.1, zR.2, q_R0) := by
  refine q_Ca_of (by decide) (Nat.le_of_ble_eq_true rfl) ?_
  show q_Ex none 159 0 [(0, .int l0)] [] (q_K0, z.1, z.2, q_R0) _ _
  unfold F_J9_abs_0f7a4 at h
  refine q_blk2 (pc2 := 1) (ls2 := [(0, .int l0)]) (st2 := [.int l0]) (h2 := (q_K0, z.1, z.2, q_R0)) [(.iload_n 0, 0, 0, 0, 0, 0)] (by decide +kernel) rfl rfl ⟨trivial, trivial⟩ ?_
  refine q_if_ge (off := 8) (tgt := 9) (by decide +kernel) (by decide) (fun c1_1 => ?_) (fun c1_1 => ?_)
  · rw [if_pos c1_1] at h
    refine q_blk2 (pc2 := 10) (ls2 := [(0, .int l0)]) (st2 := [.int l0]) (h2 := (q_K0, z.1, z.2, q_R0)) [(.iload_n 0, 0, 0, 0, 0, 0)] (by decide +kernel) rfl rfl ⟨trivial, trivial⟩ ?_
    cases h
    exact q_iret .int rfl rfl (by decide +kernel)
  · rw [if_neg c1_1] at h
    refine q_blk2 (pc2 := 6) (ls2 := [(0, .int l0)]) (st2 := [.int (-l0)]) (h2 := (q_K0, z.1, z.2, q_R0)) [(.iload_n 0, 0, 0, 0, 0, 0), (.ineg, 0, 0, 0, 0, 0)] (by decide +kernel) rfl rfl ⟨trivial, trivial, trivial⟩ ?_
    refine q_goto (off := 4) (tgt := 10) (by decide +kernel) (by decide) ?_
    cases h
    exact q_iret .int rfl rfl (by decide +kernel)
end
