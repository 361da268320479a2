section
-- ===== PART A: goes FIRST, ahead of the names: the tables' words, and 'selects' of the private methods out of them =====
/-- a private method of a class that the tables say can be made, by its rows of tables_1 -/
def lw_okq (q : MethodName × Nat) : Prop := (q.1.cls ≠ "java/lang/invoke/MethodHandle" ∧ q.1.cls ≠ "java/lang/invoke/VarHandle") ∧ Cond.instantiable q.1.cls q.2 ∈ tables_1 ∧ Cond.privateMethod q.1 ∈ tables_1 ∧ Cond.instanceMethod q.1 ∈ tables_1
theorem lw_p0 : lw_okq (⟨"CheeseHill", "refuseBad", "(I)I"⟩, 15) := ⟨⟨by decide +kernel, by decide +kernel⟩, List.mem_of_getElem? (i := 23) (by decide +kernel), List.mem_of_getElem? (i := 298) (by decide +kernel), List.mem_of_getElem? (i := 299) (by decide +kernel)⟩
theorem lw_p1 : lw_okq (⟨"CheeseHill", "refuseFull", "()I"⟩, 15) := ⟨⟨by decide +kernel, by decide +kernel⟩, List.mem_of_getElem? (i := 23) (by decide +kernel), List.mem_of_getElem? (i := 326) (by decide +kernel), List.mem_of_getElem? (i := 327) (by decide +kernel)⟩
theorem lw_p2 : lw_okq (⟨"CheeseHill$Text", "nextToken", "()V"⟩, 5) := ⟨⟨by decide +kernel, by decide +kernel⟩, List.mem_of_getElem? (i := 214) (by decide +kernel), List.mem_of_getElem? (i := 368) (by decide +kernel), List.mem_of_getElem? (i := 369) (by decide +kernel)⟩
theorem lw_p3 : lw_okq (⟨"CheeseHill$Text", "readHill", "(LCheeseHill$Hill;)Z"⟩, 5) := ⟨⟨by decide +kernel, by decide +kernel⟩, List.mem_of_getElem? (i := 214) (by decide +kernel), List.mem_of_getElem? (i := 375) (by decide +kernel), List.mem_of_getElem? (i := 376) (by decide +kernel)⟩
theorem lw_p4 : lw_okq (⟨"CheeseHill$Text", "isWord", "(Ljava/lang/String;)Z"⟩, 5) := ⟨⟨by decide +kernel, by decide +kernel⟩, List.mem_of_getElem? (i := 214) (by decide +kernel), List.mem_of_getElem? (i := 380) (by decide +kernel), List.mem_of_getElem? (i := 381) (by decide +kernel)⟩
theorem lw_p5 : lw_okq (⟨"CheeseHill$Text", "nextNumber", "(II)I"⟩, 5) := ⟨⟨by decide +kernel, by decide +kernel⟩, List.mem_of_getElem? (i := 214) (by decide +kernel), List.mem_of_getElem? (i := 432) (by decide +kernel), List.mem_of_getElem? (i := 433) (by decide +kernel)⟩
theorem lw_p6 : lw_okq (⟨"CheeseHill$Text", "nextIsSemicolon", "()Z"⟩, 5) := ⟨⟨by decide +kernel, by decide +kernel⟩, List.mem_of_getElem? (i := 214) (by decide +kernel), List.mem_of_getElem? (i := 438) (by decide +kernel), List.mem_of_getElem? (i := 439) (by decide +kernel)⟩
theorem lw_p7 : lw_okq (⟨"CheeseHill$Text", "readItem", "(LCheeseHill$Hill;)Z"⟩, 5) := ⟨⟨by decide +kernel, by decide +kernel⟩, List.mem_of_getElem? (i := 214) (by decide +kernel), List.mem_of_getElem? (i := 442) (by decide +kernel), List.mem_of_getElem? (i := 443) (by decide +kernel)⟩
theorem lw_p8 : lw_okq (⟨"CheeseHill$Text", "readCell", "(LCheeseHill$Hill;[II)Z"⟩, 5) := ⟨⟨by decide +kernel, by decide +kernel⟩, List.mem_of_getElem? (i := 214) (by decide +kernel), List.mem_of_getElem? (i := 447) (by decide +kernel), List.mem_of_getElem? (i := 448) (by decide +kernel)⟩
theorem lw_p9 : lw_okq (⟨"CheeseHill$Text", "readRunner", "(LCheeseHill$Hill;)Z"⟩, 5) := ⟨⟨by decide +kernel, by decide +kernel⟩, List.mem_of_getElem? (i := 214) (by decide +kernel), List.mem_of_getElem? (i := 454) (by decide +kernel), List.mem_of_getElem? (i := 455) (by decide +kernel)⟩
theorem lw_p10 : lw_okq (⟨"CheeseHill$Text", "readLine", "(LCheeseHill$Hill;)Z"⟩, 5) := ⟨⟨by decide +kernel, by decide +kernel⟩, List.mem_of_getElem? (i := 214) (by decide +kernel), List.mem_of_getElem? (i := 460) (by decide +kernel), List.mem_of_getElem? (i := 461) (by decide +kernel)⟩
theorem lw_p11 : lw_okq (⟨"CheeseHill", "downAt", "(I)I"⟩, 15) := ⟨⟨by decide +kernel, by decide +kernel⟩, List.mem_of_getElem? (i := 23) (by decide +kernel), List.mem_of_getElem? (i := 563) (by decide +kernel), List.mem_of_getElem? (i := 564) (by decide +kernel)⟩
theorem lw_p12 : lw_okq (⟨"CheeseHill$Guide", "leastFrom", "(LCheeseHill$Hill;LCheeseHill$Upright;IIII)I"⟩, 1) := ⟨⟨by decide +kernel, by decide +kernel⟩, List.mem_of_getElem? (i := 190) (by decide +kernel), List.mem_of_getElem? (i := 581) (by decide +kernel), List.mem_of_getElem? (i := 582) (by decide +kernel)⟩
theorem lw_p13 : lw_okq (⟨"CheeseHill$Guide", "bestStep", "(LCheeseHill$Hill;LCheeseHill$Upright;IIII)I"⟩, 1) := ⟨⟨by decide +kernel, by decide +kernel⟩, List.mem_of_getElem? (i := 190) (by decide +kernel), List.mem_of_getElem? (i := 587) (by decide +kernel), List.mem_of_getElem? (i := 588) (by decide +kernel)⟩
theorem lw_p14 : lw_okq (⟨"CheeseHill", "costOfFall", "(III)I"⟩, 15) := ⟨⟨by decide +kernel, by decide +kernel⟩, List.mem_of_getElem? (i := 23) (by decide +kernel), List.mem_of_getElem? (i := 602) (by decide +kernel), List.mem_of_getElem? (i := 603) (by decide +kernel)⟩
theorem lw_p15 : lw_okq (⟨"CheeseHill", "runnerInPlace", "(I)I"⟩, 15) := ⟨⟨by decide +kernel, by decide +kernel⟩, List.mem_of_getElem? (i := 23) (by decide +kernel), List.mem_of_getElem? (i := 615) (by decide +kernel), List.mem_of_getElem? (i := 616) (by decide +kernel)⟩
def lw_privs_1 : List (MethodName × Nat) := [(⟨"CheeseHill", "refuseBad", "(I)I"⟩, 15), (⟨"CheeseHill", "refuseFull", "()I"⟩, 15), (⟨"CheeseHill$Text", "nextToken", "()V"⟩, 5), (⟨"CheeseHill$Text", "readHill", "(LCheeseHill$Hill;)Z"⟩, 5), (⟨"CheeseHill$Text", "isWord", "(Ljava/lang/String;)Z"⟩, 5), (⟨"CheeseHill$Text", "nextNumber", "(II)I"⟩, 5), (⟨"CheeseHill$Text", "nextIsSemicolon", "()Z"⟩, 5), (⟨"CheeseHill$Text", "readItem", "(LCheeseHill$Hill;)Z"⟩, 5), (⟨"CheeseHill$Text", "readCell", "(LCheeseHill$Hill;[II)Z"⟩, 5), (⟨"CheeseHill$Text", "readRunner", "(LCheeseHill$Hill;)Z"⟩, 5), (⟨"CheeseHill$Text", "readLine", "(LCheeseHill$Hill;)Z"⟩, 5), (⟨"CheeseHill", "downAt", "(I)I"⟩, 15), (⟨"CheeseHill$Guide", "leastFrom", "(LCheeseHill$Hill;LCheeseHill$Upright;IIII)I"⟩, 1), (⟨"CheeseHill$Guide", "bestStep", "(LCheeseHill$Hill;LCheeseHill$Upright;IIII)I"⟩, 1), (⟨"CheeseHill", "costOfFall", "(III)I"⟩, 15), (⟨"CheeseHill", "runnerInPlace", "(I)I"⟩, 15)]
theorem lw_r1 : ∀ q ∈ lw_privs_1, lw_okq q := List.forall_mem_cons.mpr ⟨lw_p0, List.forall_mem_cons.mpr ⟨lw_p1, List.forall_mem_cons.mpr ⟨lw_p2, List.forall_mem_cons.mpr ⟨lw_p3, List.forall_mem_cons.mpr ⟨lw_p4, List.forall_mem_cons.mpr ⟨lw_p5, List.forall_mem_cons.mpr ⟨lw_p6, List.forall_mem_cons.mpr ⟨lw_p7, List.forall_mem_cons.mpr ⟨lw_p8, List.forall_mem_cons.mpr ⟨lw_p9, List.forall_mem_cons.mpr ⟨lw_p10, List.forall_mem_cons.mpr ⟨lw_p11, List.forall_mem_cons.mpr ⟨lw_p12, List.forall_mem_cons.mpr ⟨lw_p13, List.forall_mem_cons.mpr ⟨lw_p14, List.forall_mem_cons.mpr ⟨lw_p15, fun _ h => absurd h List.not_mem_nil⟩⟩⟩⟩⟩⟩⟩⟩⟩⟩⟩⟩⟩⟩⟩⟩
theorem lw_p16 : lw_okq (⟨"CheeseHill", "anyMeetWhenApart", "(I)Z"⟩, 15) := ⟨⟨by decide +kernel, by decide +kernel⟩, List.mem_of_getElem? (i := 23) (by decide +kernel), List.mem_of_getElem? (i := 631) (by decide +kernel), List.mem_of_getElem? (i := 632) (by decide +kernel)⟩
theorem lw_p17 : lw_okq (⟨"CheeseHill", "setFraction", "(JJ)V"⟩, 15) := ⟨⟨by decide +kernel, by decide +kernel⟩, List.mem_of_getElem? (i := 23) (by decide +kernel), List.mem_of_getElem? (i := 653) (by decide +kernel), List.mem_of_getElem? (i := 654) (by decide +kernel)⟩
theorem lw_p18 : lw_okq (⟨"CheeseHill", "harmOfAll", "()I"⟩, 15) := ⟨⟨by decide +kernel, by decide +kernel⟩, List.mem_of_getElem? (i := 23) (by decide +kernel), List.mem_of_getElem? (i := 687) (by decide +kernel), List.mem_of_getElem? (i := 688) (by decide +kernel)⟩
theorem lw_p19 : lw_okq (⟨"CheeseHill", "refuseNo", "(I)I"⟩, 15) := ⟨⟨by decide +kernel, by decide +kernel⟩, List.mem_of_getElem? (i := 23) (by decide +kernel), List.mem_of_getElem? (i := 695) (by decide +kernel), List.mem_of_getElem? (i := 696) (by decide +kernel)⟩
theorem lw_p20 : lw_okq (⟨"CheeseHill", "wearSlopes", "()V"⟩, 15) := ⟨⟨by decide +kernel, by decide +kernel⟩, List.mem_of_getElem? (i := 23) (by decide +kernel), List.mem_of_getElem? (i := 704) (by decide +kernel), List.mem_of_getElem? (i := 705) (by decide +kernel)⟩
theorem lw_p21 : lw_okq (⟨"CheeseHill", "imageNumbered", "(I)LCheeseHill$Hill;"⟩, 15) := ⟨⟨by decide +kernel, by decide +kernel⟩, List.mem_of_getElem? (i := 23) (by decide +kernel), List.mem_of_getElem? (i := 759) (by decide +kernel), List.mem_of_getElem? (i := 760) (by decide +kernel)⟩
theorem lw_p22 : lw_okq (⟨"CheeseHill", "amountOf", "(I)I"⟩, 15) := ⟨⟨by decide +kernel, by decide +kernel⟩, List.mem_of_getElem? (i := 23) (by decide +kernel), List.mem_of_getElem? (i := 783) (by decide +kernel), List.mem_of_getElem? (i := 784) (by decide +kernel)⟩
theorem lw_p23 : lw_okq (⟨"CheeseHillModel", "refuse", "(I)I"⟩, 24) := ⟨⟨by decide +kernel, by decide +kernel⟩, List.mem_of_getElem? (i := 793) (by decide +kernel), List.mem_of_getElem? (i := 887) (by decide +kernel), List.mem_of_getElem? (i := 888) (by decide +kernel)⟩
theorem lw_p24 : lw_okq (⟨"CheeseHillModel", "isRunner", "(I)Z"⟩, 24) := ⟨⟨by decide +kernel, by decide +kernel⟩, List.mem_of_getElem? (i := 793) (by decide +kernel), List.mem_of_getElem? (i := 923) (by decide +kernel), List.mem_of_getElem? (i := 924) (by decide +kernel)⟩
theorem lw_p25 : lw_okq (⟨"CheeseHillModel", "isRow", "(I)Z"⟩, 24) := ⟨⟨by decide +kernel, by decide +kernel⟩, List.mem_of_getElem? (i := 793) (by decide +kernel), List.mem_of_getElem? (i := 927) (by decide +kernel), List.mem_of_getElem? (i := 928) (by decide +kernel)⟩
theorem lw_p26 : lw_okq (⟨"CheeseHillModel", "takesAll", "()I"⟩, 24) := ⟨⟨by decide +kernel, by decide +kernel⟩, List.mem_of_getElem? (i := 793) (by decide +kernel), List.mem_of_getElem? (i := 945) (by decide +kernel), List.mem_of_getElem? (i := 946) (by decide +kernel)⟩
theorem lw_p27 : lw_okq (⟨"CheeseHillModel", "takesHill", "()Z"⟩, 24) := ⟨⟨by decide +kernel, by decide +kernel⟩, List.mem_of_getElem? (i := 793) (by decide +kernel), List.mem_of_getElem? (i := 949) (by decide +kernel), List.mem_of_getElem? (i := 950) (by decide +kernel)⟩
theorem lw_p28 : lw_okq (⟨"CheeseHillModel", "next", "()V"⟩, 24) := ⟨⟨by decide +kernel, by decide +kernel⟩, List.mem_of_getElem? (i := 793) (by decide +kernel), List.mem_of_getElem? (i := 953) (by decide +kernel), List.mem_of_getElem? (i := 954) (by decide +kernel)⟩
theorem lw_p29 : lw_okq (⟨"CheeseHillModel", "takes", "(II)Z"⟩, 24) := ⟨⟨by decide +kernel, by decide +kernel⟩, List.mem_of_getElem? (i := 793) (by decide +kernel), List.mem_of_getElem? (i := 970) (by decide +kernel), List.mem_of_getElem? (i := 971) (by decide +kernel)⟩
theorem lw_p30 : lw_okq (⟨"CheeseHillModel", "stops", "()Z"⟩, 24) := ⟨⟨by decide +kernel, by decide +kernel⟩, List.mem_of_getElem? (i := 793) (by decide +kernel), List.mem_of_getElem? (i := 974) (by decide +kernel), List.mem_of_getElem? (i := 975) (by decide +kernel)⟩
theorem lw_p31 : lw_okq (⟨"CheeseHillModel", "takesCell", "(I)Z"⟩, 24) := ⟨⟨by decide +kernel, by decide +kernel⟩, List.mem_of_getElem? (i := 793) (by decide +kernel), List.mem_of_getElem? (i := 979) (by decide +kernel), List.mem_of_getElem? (i := 980) (by decide +kernel)⟩
def lw_privs_2 : List (MethodName × Nat) := [(⟨"CheeseHill", "anyMeetWhenApart", "(I)Z"⟩, 15), (⟨"CheeseHill", "setFraction", "(JJ)V"⟩, 15), (⟨"CheeseHill", "harmOfAll", "()I"⟩, 15), (⟨"CheeseHill", "refuseNo", "(I)I"⟩, 15), (⟨"CheeseHill", "wearSlopes", "()V"⟩, 15), (⟨"CheeseHill", "imageNumbered", "(I)LCheeseHill$Hill;"⟩, 15), (⟨"CheeseHill", "amountOf", "(I)I"⟩, 15), (⟨"CheeseHillModel", "refuse", "(I)I"⟩, 24), (⟨"CheeseHillModel", "isRunner", "(I)Z"⟩, 24), (⟨"CheeseHillModel", "isRow", "(I)Z"⟩, 24), (⟨"CheeseHillModel", "takesAll", "()I"⟩, 24), (⟨"CheeseHillModel", "takesHill", "()Z"⟩, 24), (⟨"CheeseHillModel", "next", "()V"⟩, 24), (⟨"CheeseHillModel", "takes", "(II)Z"⟩, 24), (⟨"CheeseHillModel", "stops", "()Z"⟩, 24), (⟨"CheeseHillModel", "takesCell", "(I)Z"⟩, 24)]
theorem lw_r2 : ∀ q ∈ lw_privs_2, lw_okq q := List.forall_mem_cons.mpr ⟨lw_p16, List.forall_mem_cons.mpr ⟨lw_p17, List.forall_mem_cons.mpr ⟨lw_p18, List.forall_mem_cons.mpr ⟨lw_p19, List.forall_mem_cons.mpr ⟨lw_p20, List.forall_mem_cons.mpr ⟨lw_p21, List.forall_mem_cons.mpr ⟨lw_p22, List.forall_mem_cons.mpr ⟨lw_p23, List.forall_mem_cons.mpr ⟨lw_p24, List.forall_mem_cons.mpr ⟨lw_p25, List.forall_mem_cons.mpr ⟨lw_p26, List.forall_mem_cons.mpr ⟨lw_p27, List.forall_mem_cons.mpr ⟨lw_p28, List.forall_mem_cons.mpr ⟨lw_p29, List.forall_mem_cons.mpr ⟨lw_p30, List.forall_mem_cons.mpr ⟨lw_p31, fun _ h => absurd h List.not_mem_nil⟩⟩⟩⟩⟩⟩⟩⟩⟩⟩⟩⟩⟩⟩⟩⟩
theorem lw_p32 : lw_okq (⟨"CheeseHillModel", "takesRunner", "()Z"⟩, 24) := ⟨⟨by decide +kernel, by decide +kernel⟩, List.mem_of_getElem? (i := 793) (by decide +kernel), List.mem_of_getElem? (i := 985) (by decide +kernel), List.mem_of_getElem? (i := 986) (by decide +kernel)⟩
theorem lw_p33 : lw_okq (⟨"CheeseHillModel", "takesLine", "()Z"⟩, 24) := ⟨⟨by decide +kernel, by decide +kernel⟩, List.mem_of_getElem? (i := 793) (by decide +kernel), List.mem_of_getElem? (i := 990) (by decide +kernel), List.mem_of_getElem? (i := 991) (by decide +kernel)⟩
theorem lw_p34 : lw_okq (⟨"CheeseHillModel", "walks", "(I)V"⟩, 24) := ⟨⟨by decide +kernel, by decide +kernel⟩, List.mem_of_getElem? (i := 793) (by decide +kernel), List.mem_of_getElem? (i := 1001) (by decide +kernel), List.mem_of_getElem? (i := 1002) (by decide +kernel)⟩
theorem lw_p35 : lw_okq (⟨"CheeseHillModel", "walk", "(II)V"⟩, 24) := ⟨⟨by decide +kernel, by decide +kernel⟩, List.mem_of_getElem? (i := 793) (by decide +kernel), List.mem_of_getElem? (i := 1005) (by decide +kernel), List.mem_of_getElem? (i := 1006) (by decide +kernel)⟩
theorem lw_p36 : lw_okq (⟨"CheeseHillModel", "steps", "(II)I"⟩, 24) := ⟨⟨by decide +kernel, by decide +kernel⟩, List.mem_of_getElem? (i := 793) (by decide +kernel), List.mem_of_getElem? (i := 1018) (by decide +kernel), List.mem_of_getElem? (i := 1019) (by decide +kernel)⟩
theorem lw_p37 : lw_okq (⟨"CheeseHillModel", "harm", "()I"⟩, 24) := ⟨⟨by decide +kernel, by decide +kernel⟩, List.mem_of_getElem? (i := 793) (by decide +kernel), List.mem_of_getElem? (i := 1026) (by decide +kernel), List.mem_of_getElem? (i := 1027) (by decide +kernel)⟩
theorem lw_p38 : lw_okq (⟨"CheeseHillModel", "lay", "(II)V"⟩, 24) := ⟨⟨by decide +kernel, by decide +kernel⟩, List.mem_of_getElem? (i := 793) (by decide +kernel), List.mem_of_getElem? (i := 1035) (by decide +kernel), List.mem_of_getElem? (i := 1036) (by decide +kernel)⟩
theorem lw_p39 : lw_okq (⟨"CheeseHillModel", "comesTo", "(I)I"⟩, 24) := ⟨⟨by decide +kernel, by decide +kernel⟩, List.mem_of_getElem? (i := 793) (by decide +kernel), List.mem_of_getElem? (i := 1039) (by decide +kernel), List.mem_of_getElem? (i := 1040) (by decide +kernel)⟩
theorem lw_p40 : lw_okq (⟨"CheeseHillModel", "placeOf", "(I)I"⟩, 24) := ⟨⟨by decide +kernel, by decide +kernel⟩, List.mem_of_getElem? (i := 793) (by decide +kernel), List.mem_of_getElem? (i := 1051) (by decide +kernel), List.mem_of_getElem? (i := 1052) (by decide +kernel)⟩
theorem lw_p41 : lw_okq (⟨"CheeseHillModel", "downOf", "(I)I"⟩, 24) := ⟨⟨by decide +kernel, by decide +kernel⟩, List.mem_of_getElem? (i := 793) (by decide +kernel), List.mem_of_getElem? (i := 1055) (by decide +kernel), List.mem_of_getElem? (i := 1056) (by decide +kernel)⟩
theorem lw_p42 : lw_okq (⟨"CheeseHillModel", "meets", "()I"⟩, 24) := ⟨⟨by decide +kernel, by decide +kernel⟩, List.mem_of_getElem? (i := 793) (by decide +kernel), List.mem_of_getElem? (i := 1063) (by decide +kernel), List.mem_of_getElem? (i := 1064) (by decide +kernel)⟩
theorem lw_p43 : lw_okq (⟨"CheeseHillModel", "meet", "(II)Z"⟩, 24) := ⟨⟨by decide +kernel, by decide +kernel⟩, List.mem_of_getElem? (i := 793) (by decide +kernel), List.mem_of_getElem? (i := 1067) (by decide +kernel), List.mem_of_getElem? (i := 1068) (by decide +kernel)⟩
theorem lw_p44 : lw_okq (⟨"CheeseHillModel", "isLane", "(I)Z"⟩, 24) := ⟨⟨by decide +kernel, by decide +kernel⟩, List.mem_of_getElem? (i := 793) (by decide +kernel), List.mem_of_getElem? (i := 1084) (by decide +kernel), List.mem_of_getElem? (i := 1085) (by decide +kernel)⟩
theorem lw_p45 : lw_okq (⟨"CheeseHillModel", "rolls", "(I)V"⟩, 24) := ⟨⟨by decide +kernel, by decide +kernel⟩, List.mem_of_getElem? (i := 793) (by decide +kernel), List.mem_of_getElem? (i := 1088) (by decide +kernel), List.mem_of_getElem? (i := 1089) (by decide +kernel)⟩
theorem lw_p46 : lw_okq (⟨"CheeseHillModel", "fraction", "(JJ)I"⟩, 24) := ⟨⟨by decide +kernel, by decide +kernel⟩, List.mem_of_getElem? (i := 793) (by decide +kernel), List.mem_of_getElem? (i := 1092) (by decide +kernel), List.mem_of_getElem? (i := 1093) (by decide +kernel)⟩
theorem lw_p47 : lw_okq (⟨"CheeseHillModel", "harmOfAll", "()I"⟩, 24) := ⟨⟨by decide +kernel, by decide +kernel⟩, List.mem_of_getElem? (i := 793) (by decide +kernel), List.mem_of_getElem? (i := 1117) (by decide +kernel), List.mem_of_getElem? (i := 1118) (by decide +kernel)⟩
def lw_privs_3 : List (MethodName × Nat) := [(⟨"CheeseHillModel", "takesRunner", "()Z"⟩, 24), (⟨"CheeseHillModel", "takesLine", "()Z"⟩, 24), (⟨"CheeseHillModel", "walks", "(I)V"⟩, 24), (⟨"CheeseHillModel", "walk", "(II)V"⟩, 24), (⟨"CheeseHillModel", "steps", "(II)I"⟩, 24), (⟨"CheeseHillModel", "harm", "()I"⟩, 24), (⟨"CheeseHillModel", "lay", "(II)V"⟩, 24), (⟨"CheeseHillModel", "comesTo", "(I)I"⟩, 24), (⟨"CheeseHillModel", "placeOf", "(I)I"⟩, 24), (⟨"CheeseHillModel", "downOf", "(I)I"⟩, 24), (⟨"CheeseHillModel", "meets", "()I"⟩, 24), (⟨"CheeseHillModel", "meet", "(II)Z"⟩, 24), (⟨"CheeseHillModel", "isLane", "(I)Z"⟩, 24), (⟨"CheeseHillModel", "rolls", "(I)V"⟩, 24), (⟨"CheeseHillModel", "fraction", "(JJ)I"⟩, 24), (⟨"CheeseHillModel", "harmOfAll", "()I"⟩, 24)]
theorem lw_r3 : ∀ q ∈ lw_privs_3, lw_okq q := List.forall_mem_cons.mpr ⟨lw_p32, List.forall_mem_cons.mpr ⟨lw_p33, List.forall_mem_cons.mpr ⟨lw_p34, List.forall_mem_cons.mpr ⟨lw_p35, List.forall_mem_cons.mpr ⟨lw_p36, List.forall_mem_cons.mpr ⟨lw_p37, List.forall_mem_cons.mpr ⟨lw_p38, List.forall_mem_cons.mpr ⟨lw_p39, List.forall_mem_cons.mpr ⟨lw_p40, List.forall_mem_cons.mpr ⟨lw_p41, List.forall_mem_cons.mpr ⟨lw_p42, List.forall_mem_cons.mpr ⟨lw_p43, List.forall_mem_cons.mpr ⟨lw_p44, List.forall_mem_cons.mpr ⟨lw_p45, List.forall_mem_cons.mpr ⟨lw_p46, List.forall_mem_cons.mpr ⟨lw_p47, fun _ h => absurd h List.not_mem_nil⟩⟩⟩⟩⟩⟩⟩⟩⟩⟩⟩⟩⟩⟩⟩⟩
theorem lw_p48 : lw_okq (⟨"CheeseHillModel", "there", "(II)I"⟩, 24) := ⟨⟨by decide +kernel, by decide +kernel⟩, List.mem_of_getElem? (i := 793) (by decide +kernel), List.mem_of_getElem? (i := 1142) (by decide +kernel), List.mem_of_getElem? (i := 1143) (by decide +kernel)⟩
theorem lw_p49 : lw_okq (⟨"CheeseHillModel", "counted", "(I)I"⟩, 24) := ⟨⟨by decide +kernel, by decide +kernel⟩, List.mem_of_getElem? (i := 793) (by decide +kernel), List.mem_of_getElem? (i := 1175) (by decide +kernel), List.mem_of_getElem? (i := 1176) (by decide +kernel)⟩
def lw_privs_4 : List (MethodName × Nat) := [(⟨"CheeseHillModel", "there", "(II)I"⟩, 24), (⟨"CheeseHillModel", "counted", "(I)I"⟩, 24)]
theorem lw_r4 : ∀ q ∈ lw_privs_4, lw_okq q := List.forall_mem_cons.mpr ⟨lw_p48, List.forall_mem_cons.mpr ⟨lw_p49, fun _ h => absurd h List.not_mem_nil⟩⟩
def lw_privs : List (MethodName × Nat) := lw_privs_1 ++ (lw_privs_2 ++ (lw_privs_3 ++ (lw_privs_4)))
def lw_tbl : List Cond := k2_sels lw_privs ++ tables_1
theorem lw_privs_ok : ∀ q ∈ lw_privs, lw_okq q := by
  show ∀ q ∈ lw_privs_1 ++ (lw_privs_2 ++ (lw_privs_3 ++ (lw_privs_4))), lw_okq q
  exact List.forall_mem_append.mpr ⟨lw_r1, List.forall_mem_append.mpr ⟨lw_r2, List.forall_mem_append.mpr ⟨lw_r3, lw_r4⟩⟩⟩
end
section
def RX0 : String := "CheeseHill$Bold"
def TX0 : u_T := fun k => match k with
  | _ => ("", "", "", false)
def tyX0 : Nat → FieldType := fun k => match k with
  | _ => .int
abbrev wsX00 : List Cond := u_ws RX0 TX0 0
theorem nmX0 : ∀ a, a < 0 → ∀ b, b < 0 → a ≠ b → (TX0 a).2.1 ≠ (TX0 b).2.1 := by decide +kernel
theorem tyX0_ok : ∀ k, k < 0 → parseFieldDescriptor (TX0 k).2.2.1 = some (tyX0 k) := by decide +kernel
abbrev cX0_init : ByteArray := prog_2_method_1_code
def yX0_init : MethodName := ⟨RX0, "<init>", "()V"⟩
abbrev cX0_ownPace : ByteArray := prog_2_method_2_code
def yX0_ownPace : MethodName := ⟨RX0, "ownPace", "(IIII)I"⟩
def RX1 : String := "CheeseHill$Cheese"
def TX1 : u_T := fun k => match k with
  | 0 => ("CheeseHill$Cheese", "parts", "[I", true)
  | _ => ("CheeseHill$Cheese", "next", "[I", true)
def tyX1 : Nat → FieldType := fun k => match k with
  | 0 => .array .int
  | _ => .array .int
abbrev wsX10 : List Cond := u_ws RX1 TX1 2
theorem nmX1 : ∀ a, a < 2 → ∀ b, b < 2 → a ≠ b → (TX1 a).2.1 ≠ (TX1 b).2.1 := by decide +kernel
theorem tyX1_ok : ∀ k, k < 2 → parseFieldDescriptor (TX1 k).2.2.1 = some (tyX1 k) := by decide +kernel
abbrev cX1_init : ByteArray := prog_3_method_1_code
def yX1_init : MethodName := ⟨RX1, "<init>", "()V"⟩
abbrev cX1_roll : ByteArray := prog_3_method_2_code
def yX1_roll : MethodName := ⟨RX1, "roll", "(LCheeseHill$Hill;I)V"⟩
abbrev cX1_partsWithin : ByteArray := prog_3_method_3_code
def yX1_partsWithin : MethodName := ⟨RX1, "partsWithin", "(II)I"⟩
def RX2 : String := "CheeseHill$Crawler"
def TX2 : u_T := fun k => match k with
  | _ => ("", "", "", false)
def tyX2 : Nat → FieldType := fun k => match k with
  | _ => .int
abbrev wsX20 : List Cond := u_ws RX2 TX2 0
theorem nmX2 : ∀ a, a < 0 → ∀ b, b < 0 → a ≠ b → (TX2 a).2.1 ≠ (TX2 b).2.1 := by decide +kernel
theorem tyX2_ok : ∀ k, k < 0 → parseFieldDescriptor (TX2 k).2.2.1 = some (tyX2 k) := by decide +kernel
abbrev cX2_init : ByteArray := prog_4_method_1_code
def yX2_init : MethodName := ⟨RX2, "<init>", "()V"⟩
abbrev cX2_ownPace : ByteArray := prog_4_method_2_code
def yX2_ownPace : MethodName := ⟨RX2, "ownPace", "(IIII)I"⟩
def RX3 : String := "CheeseHill$Guide"
def TX3 : u_T := fun k => match k with
  | _ => ("CheeseHill$Guide", "left", "[I", true)
def tyX3 : Nat → FieldType := fun k => match k with
  | _ => .array .int
abbrev wsX30 : List Cond := u_ws RX3 TX3 1
theorem nmX3 : ∀ a, a < 1 → ∀ b, b < 1 → a ≠ b → (TX3 a).2.1 ≠ (TX3 b).2.1 := by decide +kernel
theorem tyX3_ok : ∀ k, k < 1 → parseFieldDescriptor (TX3 k).2.2.1 = some (tyX3 k) := by decide +kernel
abbrev cX3_init : ByteArray := prog_5_method_1_code
def yX3_init : MethodName := ⟨RX3, "<init>", "()V"⟩
abbrev cX3_least : ByteArray := prog_5_method_2_code
def yX3_least : MethodName := ⟨RX3, "least", "(LCheeseHill$Hill;LCheeseHill$Upright;II)I"⟩
abbrev cX3_stepIn : ByteArray := prog_5_method_3_code
def yX3_stepIn : MethodName := ⟨RX3, "stepIn", "(LCheeseHill$Hill;LCheeseHill$Upright;III)I"⟩
abbrev cX3_bestStep : ByteArray := prog_5_method_4_code
def yX3_bestStep : MethodName := ⟨RX3, "bestStep", "(LCheeseHill$Hill;LCheeseHill$Upright;IIII)I"⟩
abbrev cX3_leastFrom : ByteArray := prog_5_method_5_code
def yX3_leastFrom : MethodName := ⟨RX3, "leastFrom", "(LCheeseHill$Hill;LCheeseHill$Upright;IIII)I"⟩
def RX4 : String := "CheeseHill$Hill"
def TX4 : u_T := fun k => match k with
  | 0 => ("CheeseHill$Hill", "rows", "I", false)
  | 1 => ("CheeseHill$Hill", "lanes", "I", false)
  | 2 => ("CheeseHill$Hill", "runners", "I", false)
  | 3 => ("CheeseHill$Hill", "runsOfHurt", "I", false)
  | 4 => ("CheeseHill$Hill", "undos", "I", false)
  | 5 => ("CheeseHill$Hill", "slope", "[I", true)
  | 6 => ("CheeseHill$Hill", "ground", "[I", true)
  | 7 => ("CheeseHill$Hill", "kind", "[I", true)
  | 8 => ("CheeseHill$Hill", "lane", "[I", true)
  | 9 => ("CheeseHill$Hill", "start", "[I", true)
  | 10 => ("CheeseHill$Hill", "line", "[I", true)
  | 11 => ("CheeseHill$Hill", "hurtIn", "[I", true)
  | _ => ("CheeseHill$Hill", "slopesAhead", "[I", true)
def tyX4 : Nat → FieldType := fun k => match k with
  | 0 => .int
  | 1 => .int
  | 2 => .int
  | 3 => .int
  | 4 => .int
  | 5 => .array .int
  | 6 => .array .int
  | 7 => .array .int
  | 8 => .array .int
  | 9 => .array .int
  | 10 => .array .int
  | 11 => .array .int
  | _ => .array .int
abbrev wsX40 : List Cond := u_ws RX4 TX4 13
theorem nmX4 : ∀ a, a < 13 → ∀ b, b < 13 → a ≠ b → (TX4 a).2.1 ≠ (TX4 b).2.1 := by decide +kernel
theorem tyX4_ok : ∀ k, k < 13 → parseFieldDescriptor (TX4 k).2.2.1 = some (tyX4 k) := by decide +kernel
abbrev cX4_init : ByteArray := prog_6_method_1_code
def yX4_init : MethodName := ⟨RX4, "<init>", "()V"⟩
abbrev cX4_layOut : ByteArray := prog_6_method_2_code
def yX4_layOut : MethodName := ⟨RX4, "layOut", "(II)V"⟩
abbrev cX4_becomeLike : ByteArray := prog_6_method_3_code
def yX4_becomeLike : MethodName := ⟨RX4, "becomeLike", "(LCheeseHill$Hill;)V"⟩
abbrev cX4_isLaidOut : ByteArray := prog_6_method_4_code
def yX4_isLaidOut : MethodName := ⟨RX4, "isLaidOut", "()Z"⟩
abbrev cX4_hasRow : ByteArray := prog_6_method_5_code
def yX4_hasRow : MethodName := ⟨RX4, "hasRow", "(I)Z"⟩
abbrev cX4_hasCell : ByteArray := prog_6_method_6_code
def yX4_hasCell : MethodName := ⟨RX4, "hasCell", "(II)Z"⟩
abbrev cX4_hasRunner : ByteArray := prog_6_method_7_code
def yX4_hasRunner : MethodName := ⟨RX4, "hasRunner", "(I)Z"⟩
abbrev cX4_laneBeyond : ByteArray := prog_6_method_8_code
def yX4_laneBeyond : MethodName := ⟨RX4, "laneBeyond", "(II)I"⟩
abbrev cX4_addRunner : ByteArray := prog_6_method_9_code
def yX4_addRunner : MethodName := ⟨RX4, "addRunner", "(III)V"⟩
abbrev cX4_keepSlopes : ByteArray := prog_6_method_10_code
def yX4_keepSlopes : MethodName := ⟨RX4, "keepSlopes", "()V"⟩
abbrev cX4_bringSlopesBack : ByteArray := prog_6_method_11_code
def yX4_bringSlopesBack : MethodName := ⟨RX4, "bringSlopesBack", "()V"⟩
abbrev cX4_mostHurt : ByteArray := prog_6_method_12_code
def yX4_mostHurt : MethodName := ⟨RX4, "mostHurt", "()I"⟩
def RX5 : String := "CheeseHill$Kinds"
def TX5 : u_T := fun k => match k with
  | 0 => ("CheeseHill$Kinds", "upright", "LCheeseHill$Upright;", true)
  | 1 => ("CheeseHill$Kinds", "slider", "LCheeseHill$Upright;", true)
  | 2 => ("CheeseHill$Kinds", "tumbler", "LCheeseHill$Upright;", true)
  | 3 => ("CheeseHill$Kinds", "crawler", "LCheeseHill$Upright;", true)
  | _ => ("CheeseHill$Kinds", "bold", "LCheeseHill$Upright;", true)
def tyX5 : Nat → FieldType := fun k => match k with
  | 0 => .object "CheeseHill$Upright"
  | 1 => .object "CheeseHill$Upright"
  | 2 => .object "CheeseHill$Upright"
  | 3 => .object "CheeseHill$Upright"
  | _ => .object "CheeseHill$Upright"
abbrev wsX50 : List Cond := u_ws RX5 TX5 5
theorem nmX5 : ∀ a, a < 5 → ∀ b, b < 5 → a ≠ b → (TX5 a).2.1 ≠ (TX5 b).2.1 := by decide +kernel
theorem tyX5_ok : ∀ k, k < 5 → parseFieldDescriptor (TX5 k).2.2.1 = some (tyX5 k) := by decide +kernel
abbrev cX5_init : ByteArray := prog_7_method_1_code
def yX5_init : MethodName := ⟨RX5, "<init>", "()V"⟩
abbrev cX5_numbered : ByteArray := prog_7_method_2_code
def yX5_numbered : MethodName := ⟨RX5, "numbered", "(I)LCheeseHill$Upright;"⟩
def RX6 : String := "CheeseHill$Slider"
def TX6 : u_T := fun k => match k with
  | _ => ("", "", "", false)
def tyX6 : Nat → FieldType := fun k => match k with
  | _ => .int
abbrev wsX60 : List Cond := u_ws RX6 TX6 0
theorem nmX6 : ∀ a, a < 0 → ∀ b, b < 0 → a ≠ b → (TX6 a).2.1 ≠ (TX6 b).2.1 := by decide +kernel
theorem tyX6_ok : ∀ k, k < 0 → parseFieldDescriptor (TX6 k).2.2.1 = some (tyX6 k) := by decide +kernel
abbrev cX6_init : ByteArray := prog_8_method_1_code
def yX6_init : MethodName := ⟨RX6, "<init>", "()V"⟩
abbrev cX6_ownPace : ByteArray := prog_8_method_2_code
def yX6_ownPace : MethodName := ⟨RX6, "ownPace", "(IIII)I"⟩
def RX7 : String := "CheeseHill$Text"
def TX7 : u_T := fun k => match k with
  | 0 => ("CheeseHill$Text", "bytes", "[I", true)
  | 1 => ("CheeseHill$Text", "length", "I", false)
  | 2 => ("CheeseHill$Text", "tokenPlace", "I", false)
  | 3 => ("CheeseHill$Text", "tokenEnd", "I", false)
  | _ => ("CheeseHill$Text", "token", "I", false)
def tyX7 : Nat → FieldType := fun k => match k with
  | 0 => .array .int
  | 1 => .int
  | 2 => .int
  | 3 => .int
  | _ => .int
abbrev wsX70 : List Cond := u_ws RX7 TX7 5
theorem nmX7 : ∀ a, a < 5 → ∀ b, b < 5 → a ≠ b → (TX7 a).2.1 ≠ (TX7 b).2.1 := by decide +kernel
theorem tyX7_ok : ∀ k, k < 5 → parseFieldDescriptor (TX7 k).2.2.1 = some (tyX7 k) := by decide +kernel
abbrev cX7_init : ByteArray := prog_9_method_1_code
def yX7_init : MethodName := ⟨RX7, "<init>", "()V"⟩
abbrev cX7_append : ByteArray := prog_9_method_2_code
def yX7_append : MethodName := ⟨RX7, "append", "(JI)V"⟩
abbrev cX7_readInto : ByteArray := prog_9_method_3_code
def yX7_readInto : MethodName := ⟨RX7, "readInto", "(LCheeseHill$Hill;)I"⟩
abbrev cX7_readHill : ByteArray := prog_9_method_4_code
def yX7_readHill : MethodName := ⟨RX7, "readHill", "(LCheeseHill$Hill;)Z"⟩
abbrev cX7_readItem : ByteArray := prog_9_method_5_code
def yX7_readItem : MethodName := ⟨RX7, "readItem", "(LCheeseHill$Hill;)Z"⟩
abbrev cX7_readCell : ByteArray := prog_9_method_6_code
def yX7_readCell : MethodName := ⟨RX7, "readCell", "(LCheeseHill$Hill;[II)Z"⟩
abbrev cX7_readRunner : ByteArray := prog_9_method_7_code
def yX7_readRunner : MethodName := ⟨RX7, "readRunner", "(LCheeseHill$Hill;)Z"⟩
abbrev cX7_readLine : ByteArray := prog_9_method_8_code
def yX7_readLine : MethodName := ⟨RX7, "readLine", "(LCheeseHill$Hill;)Z"⟩
abbrev cX7_nextNumber : ByteArray := prog_9_method_9_code
def yX7_nextNumber : MethodName := ⟨RX7, "nextNumber", "(II)I"⟩
abbrev cX7_nextIsSemicolon : ByteArray := prog_9_method_10_code
def yX7_nextIsSemicolon : MethodName := ⟨RX7, "nextIsSemicolon", "()Z"⟩
abbrev cX7_isWord : ByteArray := prog_9_method_11_code
def yX7_isWord : MethodName := ⟨RX7, "isWord", "(Ljava/lang/String;)Z"⟩
abbrev cX7_nextToken : ByteArray := prog_9_method_12_code
def yX7_nextToken : MethodName := ⟨RX7, "nextToken", "()V"⟩
abbrev cX7_tokenBegunBy : ByteArray := prog_9_method_13_code
def yX7_tokenBegunBy : MethodName := ⟨RX7, "tokenBegunBy", "(I)I"⟩
def RX8 : String := "CheeseHill$Tumbler"
def TX8 : u_T := fun k => match k with
  | _ => ("", "", "", false)
def tyX8 : Nat → FieldType := fun k => match k with
  | _ => .int
abbrev wsX80 : List Cond := u_ws RX8 TX8 0
theorem nmX8 : ∀ a, a < 0 → ∀ b, b < 0 → a ≠ b → (TX8 a).2.1 ≠ (TX8 b).2.1 := by decide +kernel
theorem tyX8_ok : ∀ k, k < 0 → parseFieldDescriptor (TX8 k).2.2.1 = some (tyX8 k) := by decide +kernel
abbrev cX8_init : ByteArray := prog_10_method_1_code
def yX8_init : MethodName := ⟨RX8, "<init>", "()V"⟩
abbrev cX8_ownPace : ByteArray := prog_10_method_2_code
def yX8_ownPace : MethodName := ⟨RX8, "ownPace", "(IIII)I"⟩
abbrev cX8_delayInNettles : ByteArray := prog_10_method_3_code
def yX8_delayInNettles : MethodName := ⟨RX8, "delayInNettles", "()I"⟩
abbrev cX8_harmIn : ByteArray := prog_10_method_4_code
def yX8_harmIn : MethodName := ⟨RX8, "harmIn", "(III)I"⟩
abbrev cX8_felt : ByteArray := prog_10_method_5_code
def yX8_felt : MethodName := ⟨RX8, "felt", "(I)I"⟩
def RX9 : String := "CheeseHill$Upright"
def TX9 : u_T := fun k => match k with
  | _ => ("", "", "", false)
def tyX9 : Nat → FieldType := fun k => match k with
  | _ => .int
abbrev wsX90 : List Cond := u_ws RX9 TX9 0
theorem nmX9 : ∀ a, a < 0 → ∀ b, b < 0 → a ≠ b → (TX9 a).2.1 ≠ (TX9 b).2.1 := by decide +kernel
theorem tyX9_ok : ∀ k, k < 0 → parseFieldDescriptor (TX9 k).2.2.1 = some (tyX9 k) := by decide +kernel
abbrev cX9_init : ByteArray := prog_11_method_1_code
def yX9_init : MethodName := ⟨RX9, "<init>", "()V"⟩
abbrev cX9_newPace : ByteArray := prog_11_method_2_code
def yX9_newPace : MethodName := ⟨RX9, "newPace", "(IIII)I"⟩
abbrev cX9_ownPace : ByteArray := prog_11_method_3_code
def yX9_ownPace : MethodName := ⟨RX9, "ownPace", "(IIII)I"⟩
abbrev cX9_timeIn : ByteArray := prog_11_method_4_code
def yX9_timeIn : MethodName := ⟨RX9, "timeIn", "(II)I"⟩
abbrev cX9_delayInNettles : ByteArray := prog_11_method_5_code
def yX9_delayInNettles : MethodName := ⟨RX9, "delayInNettles", "()I"⟩
abbrev cX9_harmIn : ByteArray := prog_11_method_6_code
def yX9_harmIn : MethodName := ⟨RX9, "harmIn", "(III)I"⟩
def RX10 : String := "CheeseHill$Ways"
def TX10 : u_T := fun k => match k with
  | 0 => ("CheeseHill$Ways", "lane", "[I", true)
  | 1 => ("CheeseHill$Ways", "pace", "[I", true)
  | 2 => ("CheeseHill$Ways", "since", "[I", true)
  | _ => ("CheeseHill$Ways", "harm", "[I", true)
def tyX10 : Nat → FieldType := fun k => match k with
  | 0 => .array .int
  | 1 => .array .int
  | 2 => .array .int
  | _ => .array .int
abbrev wsX100 : List Cond := u_ws RX10 TX10 4
theorem nmX10 : ∀ a, a < 4 → ∀ b, b < 4 → a ≠ b → (TX10 a).2.1 ≠ (TX10 b).2.1 := by decide +kernel
theorem tyX10_ok : ∀ k, k < 4 → parseFieldDescriptor (TX10 k).2.2.1 = some (tyX10 k) := by decide +kernel
abbrev cX10_init : ByteArray := prog_12_method_1_code
def yX10_init : MethodName := ⟨RX10, "<init>", "()V"⟩
abbrev cX10_followAll : ByteArray := prog_12_method_2_code
def yX10_followAll : MethodName := ⟨RX10, "followAll", "(LCheeseHill$Hill;LCheeseHill$Kinds;)V"⟩
abbrev cX10_follow : ByteArray := prog_12_method_3_code
def yX10_follow : MethodName := ⟨RX10, "follow", "(LCheeseHill$Hill;LCheeseHill$Kinds;II)V"⟩
abbrev cX10_harmInAll : ByteArray := prog_12_method_4_code
def yX10_harmInAll : MethodName := ⟨RX10, "harmInAll", "(II)I"⟩
abbrev cX10_meet : ByteArray := prog_12_method_5_code
def yX10_meet : MethodName := ⟨RX10, "meet", "(IIII)Z"⟩
abbrev cX10_goersIn : ByteArray := prog_12_method_6_code
def yX10_goersIn : MethodName := ⟨RX10, "goersIn", "(III)I"⟩
def RX11 : String := "CheeseHill"
def TX11 : u_T := fun k => match k with
  | 0 => ("CheeseHill", "land", "LCheeseHill$Hill;", false)
  | 1 => ("CheeseHill", "spare", "LCheeseHill$Hill;", false)
  | 2 => ("CheeseHill", "imageZero", "LCheeseHill$Hill;", true)
  | 3 => ("CheeseHill", "imageOne", "LCheeseHill$Hill;", true)
  | 4 => ("CheeseHill", "kinds", "LCheeseHill$Kinds;", true)
  | 5 => ("CheeseHill", "ways", "LCheeseHill$Ways;", true)
  | 6 => ("CheeseHill", "guide", "LCheeseHill$Guide;", true)
  | 7 => ("CheeseHill", "wheel", "LCheeseHill$Cheese;", true)
  | 8 => ("CheeseHill", "text", "LCheeseHill$Text;", true)
  | 9 => ("CheeseHill", "backAt", "[I", true)
  | 10 => ("CheeseHill", "above", "J", false)
  | 11 => ("CheeseHill", "below", "J", false)
  | 12 => ("CheeseHill", "refusedBad", "I", false)
  | 13 => ("CheeseHill", "refusedNo", "I", false)
  | _ => ("CheeseHill", "refusedFull", "I", false)
def tyX11 : Nat → FieldType := fun k => match k with
  | 0 => .object "CheeseHill$Hill"
  | 1 => .object "CheeseHill$Hill"
  | 2 => .object "CheeseHill$Hill"
  | 3 => .object "CheeseHill$Hill"
  | 4 => .object "CheeseHill$Kinds"
  | 5 => .object "CheeseHill$Ways"
  | 6 => .object "CheeseHill$Guide"
  | 7 => .object "CheeseHill$Cheese"
  | 8 => .object "CheeseHill$Text"
  | 9 => .array .int
  | 10 => .long
  | 11 => .long
  | 12 => .int
  | 13 => .int
  | _ => .int
abbrev wsX110 : List Cond := u_ws RX11 TX11 15
theorem nmX11 : ∀ a, a < 15 → ∀ b, b < 15 → a ≠ b → (TX11 a).2.1 ≠ (TX11 b).2.1 := by decide +kernel
theorem tyX11_ok : ∀ k, k < 15 → parseFieldDescriptor (TX11 k).2.2.1 = some (tyX11 k) := by decide +kernel
abbrev cX11_init : ByteArray := prog_1_method_1_code
def yX11_init : MethodName := ⟨RX11, "<init>", "()V"⟩
abbrev cX11_hill : ByteArray := prog_1_method_2_code
def yX11_hill : MethodName := ⟨RX11, "hill", "(II)I"⟩
abbrev cX11_put : ByteArray := prog_1_method_3_code
def yX11_put : MethodName := ⟨RX11, "put", "(IIII)I"⟩
abbrev cX11_at : ByteArray := prog_1_method_4_code
def yX11_at : MethodName := ⟨RX11, "at", "(III)I"⟩
abbrev cX11_runner : ByteArray := prog_1_method_5_code
def yX11_runner : MethodName := ⟨RX11, "runner", "(III)I"⟩
abbrev cX11_line : ByteArray := prog_1_method_6_code
def yX11_line : MethodName := ⟨RX11, "line", "(III)I"⟩
abbrev cX11_type : ByteArray := prog_1_method_7_code
def yX11_type : MethodName := ⟨RX11, "type", "(JI)I"⟩
abbrev cX11_clear : ByteArray := prog_1_method_8_code
def yX11_clear : MethodName := ⟨RX11, "clear", "()I"⟩
abbrev cX11_read : ByteArray := prog_1_method_9_code
def yX11_read : MethodName := ⟨RX11, "read", "()I"⟩
abbrev cX11_goes : ByteArray := prog_1_method_10_code
def yX11_goes : MethodName := ⟨RX11, "goes", "(III)I"⟩
abbrev cX11_down : ByteArray := prog_1_method_11_code
def yX11_down : MethodName := ⟨RX11, "down", "(II)I"⟩
abbrev cX11_best : ByteArray := prog_1_method_12_code
def yX11_best : MethodName := ⟨RX11, "best", "(III)I"⟩
abbrev cX11_fall : ByteArray := prog_1_method_13_code
def yX11_fall : MethodName := ⟨RX11, "fall", "(II)I"⟩
abbrev cX11_place : ByteArray := prog_1_method_14_code
def yX11_place : MethodName := ⟨RX11, "place", "(I)I"⟩
abbrev cX11_clashes : ByteArray := prog_1_method_15_code
def yX11_clashes : MethodName := ⟨RX11, "clashes", "()I"⟩
abbrev cX11_apart : ByteArray := prog_1_method_16_code
def yX11_apart : MethodName := ⟨RX11, "apart", "()I"⟩
abbrev cX11_began : ByteArray := prog_1_method_17_code
def yX11_began : MethodName := ⟨RX11, "began", "(II)I"⟩
abbrev cX11_cheese : ByteArray := prog_1_method_18_code
def yX11_cheese : MethodName := ⟨RX11, "cheese", "(II)I"⟩
abbrev cX11_fence : ByteArray := prog_1_method_19_code
def yX11_fence : MethodName := ⟨RX11, "fence", "(II)I"⟩
abbrev cX11_feet : ByteArray := prog_1_method_20_code
def yX11_feet : MethodName := ⟨RX11, "feet", "(I)I"⟩
abbrev cX11_catchers : ByteArray := prog_1_method_21_code
def yX11_catchers : MethodName := ⟨RX11, "catchers", "()I"⟩
abbrev cX11_bale : ByteArray := prog_1_method_22_code
def yX11_bale : MethodName := ⟨RX11, "bale", "()I"⟩
abbrev cX11_run : ByteArray := prog_1_method_23_code
def yX11_run : MethodName := ⟨RX11, "run", "()I"⟩
abbrev cX11_undo : ByteArray := prog_1_method_24_code
def yX11_undo : MethodName := ⟨RX11, "undo", "()I"⟩
abbrev cX11_hurt : ByteArray := prog_1_method_25_code
def yX11_hurt : MethodName := ⟨RX11, "hurt", "(I)I"⟩
abbrev cX11_heal : ByteArray := prog_1_method_26_code
def yX11_heal : MethodName := ⟨RX11, "heal", "()I"⟩
abbrev cX11_waits : ByteArray := prog_1_method_27_code
def yX11_waits : MethodName := ⟨RX11, "waits", "(II)I"⟩
abbrev cX11_drawn : ByteArray := prog_1_method_28_code
def yX11_drawn : MethodName := ⟨RX11, "drawn", "(II)I"⟩
abbrev cX11_part : ByteArray := prog_1_method_29_code
def yX11_part : MethodName := ⟨RX11, "part", "(I)J"⟩
abbrev cX11_image : ByteArray := prog_1_method_30_code
def yX11_image : MethodName := ⟨RX11, "image", "(I)I"⟩
abbrev cX11_from : ByteArray := prog_1_method_31_code
def yX11_from : MethodName := ⟨RX11, "from", "(I)I"⟩
abbrev cX11_status : ByteArray := prog_1_method_32_code
def yX11_status : MethodName := ⟨RX11, "status", "(I)I"⟩
abbrev cX11_count : ByteArray := prog_1_method_33_code
def yX11_count : MethodName := ⟨RX11, "count", "(I)I"⟩
abbrev cX11_digest : ByteArray := prog_1_method_34_code
def yX11_digest : MethodName := ⟨RX11, "digest", "()J"⟩
abbrev cX11_refuseBad : ByteArray := prog_1_method_35_code
def yX11_refuseBad : MethodName := ⟨RX11, "refuseBad", "(I)I"⟩
abbrev cX11_refuseNo : ByteArray := prog_1_method_36_code
def yX11_refuseNo : MethodName := ⟨RX11, "refuseNo", "(I)I"⟩
abbrev cX11_refuseFull : ByteArray := prog_1_method_37_code
def yX11_refuseFull : MethodName := ⟨RX11, "refuseFull", "()I"⟩
abbrev cX11_setFraction : ByteArray := prog_1_method_38_code
def yX11_setFraction : MethodName := ⟨RX11, "setFraction", "(JJ)V"⟩
abbrev cX11_imageNumbered : ByteArray := prog_1_method_39_code
def yX11_imageNumbered : MethodName := ⟨RX11, "imageNumbered", "(I)LCheeseHill$Hill;"⟩
abbrev cX11_amountOf : ByteArray := prog_1_method_40_code
def yX11_amountOf : MethodName := ⟨RX11, "amountOf", "(I)I"⟩
abbrev cX11_downAt : ByteArray := prog_1_method_41_code
def yX11_downAt : MethodName := ⟨RX11, "downAt", "(I)I"⟩
abbrev cX11_costOfFall : ByteArray := prog_1_method_42_code
def yX11_costOfFall : MethodName := ⟨RX11, "costOfFall", "(III)I"⟩
abbrev cX11_runnerInPlace : ByteArray := prog_1_method_43_code
def yX11_runnerInPlace : MethodName := ⟨RX11, "runnerInPlace", "(I)I"⟩
abbrev cX11_anyMeetWhenApart : ByteArray := prog_1_method_44_code
def yX11_anyMeetWhenApart : MethodName := ⟨RX11, "anyMeetWhenApart", "(I)Z"⟩
abbrev cX11_harmOfAll : ByteArray := prog_1_method_45_code
def yX11_harmOfAll : MethodName := ⟨RX11, "harmOfAll", "()I"⟩
abbrev cX11_wearSlopes : ByteArray := prog_1_method_46_code
def yX11_wearSlopes : MethodName := ⟨RX11, "wearSlopes", "()V"⟩
abbrev cX11_commonDivisor : ByteArray := prog_1_method_47_code
def yX11_commonDivisor : MethodName := ⟨RX11, "commonDivisor", "(JJ)J"⟩
abbrev cX11_within : ByteArray := prog_1_method_48_code
def yX11_within : MethodName := ⟨RX11, "within", "(III)Z"⟩
abbrev cX11_cell : ByteArray := prog_1_method_49_code
def yX11_cell : MethodName := ⟨RX11, "cell", "(II)I"⟩
abbrev cX11_onLine : ByteArray := prog_1_method_50_code
def yX11_onLine : MethodName := ⟨RX11, "onLine", "(II)I"⟩
abbrev cX11_onWay : ByteArray := prog_1_method_51_code
def yX11_onWay : MethodName := ⟨RX11, "onWay", "(II)I"⟩
def RX12 : String := "CheeseHillModel"
def TX12 : u_T := fun k => match k with
  | 0 => ("CheeseHillModel", "now", "[I", true)
  | 1 => ("CheeseHillModel", "read", "[I", true)
  | 2 => ("CheeseHillModel", "images", "[I", true)
  | 3 => ("CheeseHillModel", "isKept", "[Z", true)
  | 4 => ("CheeseHillModel", "text", "[I", true)
  | 5 => ("CheeseHillModel", "size", "I", false)
  | 6 => ("CheeseHillModel", "above", "J", false)
  | 7 => ("CheeseHillModel", "below", "J", false)
  | 8 => ("CheeseHillModel", "refused", "[I", true)
  | 9 => ("CheeseHillModel", "at", "I", false)
  | 10 => ("CheeseHillModel", "begin", "I", false)
  | 11 => ("CheeseHillModel", "kind", "I", false)
  | 12 => ("CheeseHillModel", "value", "J", false)
  | 13 => ("CheeseHillModel", "lanes", "[I", true)
  | 14 => ("CheeseHillModel", "paces", "[I", true)
  | 15 => ("CheeseHillModel", "ins", "[I", true)
  | 16 => ("CheeseHillModel", "harms", "[I", true)
  | 17 => ("CheeseHillModel", "ownLanes", "[I", true)
  | 18 => ("CheeseHillModel", "ownIns", "[I", true)
  | 19 => ("CheeseHillModel", "starts", "[I", true)
  | 20 => ("CheeseHillModel", "ways", "[I", true)
  | 21 => ("CheeseHillModel", "then", "[I", true)
  | 22 => ("CheeseHillModel", "trodden", "[I", true)
  | _ => ("CheeseHillModel", "backs", "[I", true)
def tyX12 : Nat → FieldType := fun k => match k with
  | 0 => .array .int
  | 1 => .array .int
  | 2 => .array .int
  | 3 => .array .boolean
  | 4 => .array .int
  | 5 => .int
  | 6 => .long
  | 7 => .long
  | 8 => .array .int
  | 9 => .int
  | 10 => .int
  | 11 => .int
  | 12 => .long
  | 13 => .array .int
  | 14 => .array .int
  | 15 => .array .int
  | 16 => .array .int
  | 17 => .array .int
  | 18 => .array .int
  | 19 => .array .int
  | 20 => .array .int
  | 21 => .array .int
  | 22 => .array .int
  | _ => .array .int
abbrev wsX120 : List Cond := u_ws RX12 TX12 24
theorem nmX12 : ∀ a, a < 24 → ∀ b, b < 24 → a ≠ b → (TX12 a).2.1 ≠ (TX12 b).2.1 := by decide +kernel
theorem tyX12_ok : ∀ k, k < 24 → parseFieldDescriptor (TX12 k).2.2.1 = some (tyX12 k) := by decide +kernel
abbrev cX12_init : ByteArray := prog_14_method_1_code
def yX12_init : MethodName := ⟨RX12, "<init>", "()V"⟩
abbrev cX12_in : ByteArray := prog_14_method_3_code
def yX12_in : MethodName := ⟨RX12, "in", "(JJJ)Z"⟩
abbrev cX12_refuse : ByteArray := prog_14_method_4_code
def yX12_refuse : MethodName := ⟨RX12, "refuse", "(I)I"⟩
abbrev cX12_clean : ByteArray := prog_14_method_5_code
def yX12_clean : MethodName := ⟨RX12, "clean", "([III)V"⟩
abbrev cX12_fraction : ByteArray := prog_14_method_6_code
def yX12_fraction : MethodName := ⟨RX12, "fraction", "(JJ)I"⟩
abbrev cX12_hill : ByteArray := prog_14_method_7_code
def yX12_hill : MethodName := ⟨RX12, "hill", "(II)I"⟩
abbrev cX12_isCell : ByteArray := prog_14_method_8_code
def yX12_isCell : MethodName := ⟨RX12, "isCell", "([III)Z"⟩
abbrev cX12_cellAt : ByteArray := prog_14_method_9_code
def yX12_cellAt : MethodName := ⟨RX12, "cellAt", "(III)I"⟩
abbrev cX12_put : ByteArray := prog_14_method_10_code
def yX12_put : MethodName := ⟨RX12, "put", "(IIII)I"⟩
abbrev cX12_at : ByteArray := prog_14_method_11_code
def yX12_at : MethodName := ⟨RX12, "at", "(III)I"⟩
abbrev cX12_isRunnerAt : ByteArray := prog_14_method_12_code
def yX12_isRunnerAt : MethodName := ⟨RX12, "isRunnerAt", "([IIII)Z"⟩
abbrev cX12_joins : ByteArray := prog_14_method_13_code
def yX12_joins : MethodName := ⟨RX12, "joins", "([IIII)I"⟩
abbrev cX12_runner : ByteArray := prog_14_method_14_code
def yX12_runner : MethodName := ⟨RX12, "runner", "(III)I"⟩
abbrev cX12_isRunner : ByteArray := prog_14_method_15_code
def yX12_isRunner : MethodName := ⟨RX12, "isRunner", "(I)Z"⟩
abbrev cX12_isRow : ByteArray := prog_14_method_16_code
def yX12_isRow : MethodName := ⟨RX12, "isRow", "(I)Z"⟩
abbrev cX12_line : ByteArray := prog_14_method_17_code
def yX12_line : MethodName := ⟨RX12, "line", "(III)I"⟩
abbrev cX12_type : ByteArray := prog_14_method_18_code
def yX12_type : MethodName := ⟨RX12, "type", "(JI)I"⟩
abbrev cX12_clear : ByteArray := prog_14_method_19_code
def yX12_clear : MethodName := ⟨RX12, "clear", "()I"⟩
abbrev cX12_isLetter : ByteArray := prog_14_method_20_code
def yX12_isLetter : MethodName := ⟨RX12, "isLetter", "(I)Z"⟩
abbrev cX12_isFigure : ByteArray := prog_14_method_21_code
def yX12_isFigure : MethodName := ⟨RX12, "isFigure", "(I)Z"⟩
abbrev cX12_next : ByteArray := prog_14_method_22_code
def yX12_next : MethodName := ⟨RX12, "next", "()V"⟩
abbrev cX12_takes : ByteArray := prog_14_method_23_code
def yX12_takes : MethodName := ⟨RX12, "takes", "(II)Z"⟩
abbrev cX12_stops : ByteArray := prog_14_method_24_code
def yX12_stops : MethodName := ⟨RX12, "stops", "()Z"⟩
abbrev cX12_takesHill : ByteArray := prog_14_method_25_code
def yX12_takesHill : MethodName := ⟨RX12, "takesHill", "()Z"⟩
abbrev cX12_takesCell : ByteArray := prog_14_method_26_code
def yX12_takesCell : MethodName := ⟨RX12, "takesCell", "(I)Z"⟩
abbrev cX12_takesRunner : ByteArray := prog_14_method_27_code
def yX12_takesRunner : MethodName := ⟨RX12, "takesRunner", "()Z"⟩
abbrev cX12_takesLine : ByteArray := prog_14_method_28_code
def yX12_takesLine : MethodName := ⟨RX12, "takesLine", "()Z"⟩
abbrev cX12_takesAll : ByteArray := prog_14_method_29_code
def yX12_takesAll : MethodName := ⟨RX12, "takesAll", "()I"⟩
abbrev cX12_read : ByteArray := prog_14_method_30_code
def yX12_read : MethodName := ⟨RX12, "read", "()I"⟩
abbrev cX12_copy : ByteArray := prog_14_method_31_code
def yX12_copy : MethodName := ⟨RX12, "copy", "([II[II)V"⟩
abbrev cX12_capped : ByteArray := prog_14_method_32_code
def yX12_capped : MethodName := ⟨RX12, "capped", "(I)I"⟩
abbrev cX12_paceOf : ByteArray := prog_14_method_33_code
def yX12_paceOf : MethodName := ⟨RX12, "paceOf", "(IIIII)I"⟩
abbrev cX12_harmOf : ByteArray := prog_14_method_34_code
def yX12_harmOf : MethodName := ⟨RX12, "harmOf", "(IIII)I"⟩
abbrev cX12_steps : ByteArray := prog_14_method_35_code
def yX12_steps : MethodName := ⟨RX12, "steps", "(II)I"⟩
abbrev cX12_walk : ByteArray := prog_14_method_36_code
def yX12_walk : MethodName := ⟨RX12, "walk", "(II)V"⟩
abbrev cX12_walks : ByteArray := prog_14_method_37_code
def yX12_walks : MethodName := ⟨RX12, "walks", "(I)V"⟩
abbrev cX12_harm : ByteArray := prog_14_method_38_code
def yX12_harm : MethodName := ⟨RX12, "harm", "()I"⟩
abbrev cX12_comesTo : ByteArray := prog_14_method_39_code
def yX12_comesTo : MethodName := ⟨RX12, "comesTo", "(I)I"⟩
abbrev cX12_goes : ByteArray := prog_14_method_40_code
def yX12_goes : MethodName := ⟨RX12, "goes", "(III)I"⟩
abbrev cX12_down : ByteArray := prog_14_method_41_code
def yX12_down : MethodName := ⟨RX12, "down", "(II)I"⟩
abbrev cX12_lay : ByteArray := prog_14_method_42_code
def yX12_lay : MethodName := ⟨RX12, "lay", "(II)V"⟩
abbrev cX12_best : ByteArray := prog_14_method_43_code
def yX12_best : MethodName := ⟨RX12, "best", "(III)I"⟩
abbrev cX12_fall : ByteArray := prog_14_method_44_code
def yX12_fall : MethodName := ⟨RX12, "fall", "(II)I"⟩
abbrev cX12_downOf : ByteArray := prog_14_method_45_code
def yX12_downOf : MethodName := ⟨RX12, "downOf", "(I)I"⟩
abbrev cX12_placeOf : ByteArray := prog_14_method_46_code
def yX12_placeOf : MethodName := ⟨RX12, "placeOf", "(I)I"⟩
abbrev cX12_place : ByteArray := prog_14_method_47_code
def yX12_place : MethodName := ⟨RX12, "place", "(I)I"⟩
abbrev cX12_meet : ByteArray := prog_14_method_48_code
def yX12_meet : MethodName := ⟨RX12, "meet", "(II)Z"⟩
abbrev cX12_meets : ByteArray := prog_14_method_49_code
def yX12_meets : MethodName := ⟨RX12, "meets", "()I"⟩
abbrev cX12_clashes : ByteArray := prog_14_method_50_code
def yX12_clashes : MethodName := ⟨RX12, "clashes", "()I"⟩
abbrev cX12_apart : ByteArray := prog_14_method_51_code
def yX12_apart : MethodName := ⟨RX12, "apart", "()I"⟩
abbrev cX12_began : ByteArray := prog_14_method_52_code
def yX12_began : MethodName := ⟨RX12, "began", "(II)I"⟩
abbrev cX12_rolls : ByteArray := prog_14_method_53_code
def yX12_rolls : MethodName := ⟨RX12, "rolls", "(I)V"⟩
abbrev cX12_isLane : ByteArray := prog_14_method_54_code
def yX12_isLane : MethodName := ⟨RX12, "isLane", "(I)Z"⟩
abbrev cX12_cheese : ByteArray := prog_14_method_55_code
def yX12_cheese : MethodName := ⟨RX12, "cheese", "(II)I"⟩
abbrev cX12_fence : ByteArray := prog_14_method_56_code
def yX12_fence : MethodName := ⟨RX12, "fence", "(II)I"⟩
abbrev cX12_feet : ByteArray := prog_14_method_57_code
def yX12_feet : MethodName := ⟨RX12, "feet", "(I)I"⟩
abbrev cX12_bits : ByteArray := prog_14_method_58_code
def yX12_bits : MethodName := ⟨RX12, "bits", "(I)I"⟩
abbrev cX12_catchers : ByteArray := prog_14_method_59_code
def yX12_catchers : MethodName := ⟨RX12, "catchers", "()I"⟩
abbrev cX12_harmOfAll : ByteArray := prog_14_method_60_code
def yX12_harmOfAll : MethodName := ⟨RX12, "harmOfAll", "()I"⟩
abbrev cX12_bale : ByteArray := prog_14_method_61_code
def yX12_bale : MethodName := ⟨RX12, "bale", "()I"⟩
abbrev cX12_run : ByteArray := prog_14_method_62_code
def yX12_run : MethodName := ⟨RX12, "run", "()I"⟩
abbrev cX12_undo : ByteArray := prog_14_method_63_code
def yX12_undo : MethodName := ⟨RX12, "undo", "()I"⟩
abbrev cX12_hurt : ByteArray := prog_14_method_64_code
def yX12_hurt : MethodName := ⟨RX12, "hurt", "(I)I"⟩
abbrev cX12_heal : ByteArray := prog_14_method_65_code
def yX12_heal : MethodName := ⟨RX12, "heal", "()I"⟩
abbrev cX12_there : ByteArray := prog_14_method_66_code
def yX12_there : MethodName := ⟨RX12, "there", "(II)I"⟩
abbrev cX12_waits : ByteArray := prog_14_method_67_code
def yX12_waits : MethodName := ⟨RX12, "waits", "(II)I"⟩
abbrev cX12_drawn : ByteArray := prog_14_method_68_code
def yX12_drawn : MethodName := ⟨RX12, "drawn", "(II)I"⟩
abbrev cX12_part : ByteArray := prog_14_method_69_code
def yX12_part : MethodName := ⟨RX12, "part", "(I)J"⟩
abbrev cX12_image : ByteArray := prog_14_method_70_code
def yX12_image : MethodName := ⟨RX12, "image", "(I)I"⟩
abbrev cX12_from : ByteArray := prog_14_method_71_code
def yX12_from : MethodName := ⟨RX12, "from", "(I)I"⟩
abbrev cX12_status : ByteArray := prog_14_method_72_code
def yX12_status : MethodName := ⟨RX12, "status", "(I)I"⟩
abbrev cX12_counted : ByteArray := prog_14_method_73_code
def yX12_counted : MethodName := ⟨RX12, "counted", "(I)I"⟩
abbrev cX12_count : ByteArray := prog_14_method_74_code
def yX12_count : MethodName := ⟨RX12, "count", "(I)I"⟩
abbrev cX12_digest : ByteArray := prog_14_method_75_code
def yX12_digest : MethodName := ⟨RX12, "digest", "()J"⟩
def RJx145de : String := "java/io/Serializable"
def TJx145de : u_T := fun k => match k with
  | _ => ("", "", "", false)
def tyJx145de : Nat → FieldType := fun k => match k with
  | _ => .int
abbrev wsJx145de0 : List Cond := u_ws RJx145de TJx145de 0
theorem nmJx145de : ∀ a, a < 0 → ∀ b, b < 0 → a ≠ b → (TJx145de a).2.1 ≠ (TJx145de b).2.1 := by decide +kernel
theorem tyJx145de_ok : ∀ k, k < 0 → parseFieldDescriptor (TJx145de k).2.2.1 = some (tyJx145de k) := by decide +kernel
def RJx9f9b0 : String := "java/lang/CharSequence"
def TJx9f9b0 : u_T := fun k => match k with
  | _ => ("", "", "", false)
def tyJx9f9b0 : Nat → FieldType := fun k => match k with
  | _ => .int
abbrev wsJx9f9b00 : List Cond := u_ws RJx9f9b0 TJx9f9b0 0
theorem nmJx9f9b0 : ∀ a, a < 0 → ∀ b, b < 0 → a ≠ b → (TJx9f9b0 a).2.1 ≠ (TJx9f9b0 b).2.1 := by decide +kernel
theorem tyJx9f9b0_ok : ∀ k, k < 0 → parseFieldDescriptor (TJx9f9b0 k).2.2.1 = some (tyJx9f9b0 k) := by decide +kernel
def RJxb160c : String := "java/lang/Comparable"
def TJxb160c : u_T := fun k => match k with
  | _ => ("", "", "", false)
def tyJxb160c : Nat → FieldType := fun k => match k with
  | _ => .int
abbrev wsJxb160c0 : List Cond := u_ws RJxb160c TJxb160c 0
theorem nmJxb160c : ∀ a, a < 0 → ∀ b, b < 0 → a ≠ b → (TJxb160c a).2.1 ≠ (TJxb160c b).2.1 := by decide +kernel
theorem tyJxb160c_ok : ∀ k, k < 0 → parseFieldDescriptor (TJxb160c k).2.2.1 = some (tyJxb160c k) := by decide +kernel
def RJ6 : String := "java/lang/Integer"
def TJ6 : u_T := fun k => match k with
  | _ => ("", "", "", false)
def tyJ6 : Nat → FieldType := fun k => match k with
  | _ => .int
abbrev wsJ60 : List Cond := u_ws RJ6 TJ6 0
theorem nmJ6 : ∀ a, a < 0 → ∀ b, b < 0 → a ≠ b → (TJ6 a).2.1 ≠ (TJ6 b).2.1 := by decide +kernel
theorem tyJ6_ok : ∀ k, k < 0 → parseFieldDescriptor (TJ6 k).2.2.1 = some (tyJ6 k) := by decide +kernel
abbrev cJ6_bitCount_0f7a4 : ByteArray := prog_15_method_49_code
def yJ6_bitCount_0f7a4 : MethodName := ⟨RJ6, "bitCount", "(I)I"⟩
def RJ9 : String := "java/lang/Math"
def TJ9 : u_T := fun k => match k with
  | _ => ("", "", "", false)
def tyJ9 : Nat → FieldType := fun k => match k with
  | _ => .int
abbrev wsJ90 : List Cond := u_ws RJ9 TJ9 0
theorem nmJ9 : ∀ a, a < 0 → ∀ b, b < 0 → a ≠ b → (TJ9 a).2.1 ≠ (TJ9 b).2.1 := by decide +kernel
theorem tyJ9_ok : ∀ k, k < 0 → parseFieldDescriptor (TJ9 k).2.2.1 = some (tyJ9 k) := by decide +kernel
abbrev cJ9_max_7cf53 : ByteArray := prog_16_method_65_code
def yJ9_max_7cf53 : MethodName := ⟨RJ9, "max", "(II)I"⟩
abbrev cJ9_min_7cf53 : ByteArray := prog_16_method_69_code
def yJ9_min_7cf53 : MethodName := ⟨RJ9, "min", "(II)I"⟩
def RJ0 : String := "java/lang/String"
def TJ0 : u_T := fun k => match k with
  | _ => ("", "", "", false)
def tyJ0 : Nat → FieldType := fun k => match k with
  | _ => .int
abbrev wsJ00 : List Cond := u_ws RJ0 TJ0 0
theorem nmJ0 : ∀ a, a < 0 → ∀ b, b < 0 → a ≠ b → (TJ0 a).2.1 ≠ (TJ0 b).2.1 := by decide +kernel
theorem tyJ0_ok : ∀ k, k < 0 → parseFieldDescriptor (TJ0 k).2.2.1 = some (tyJ0 k) := by decide +kernel
abbrev cJ0_length_8abf5 : ByteArray := prog_17_method_54_code
def yJ0_length_8abf5 : MethodName := ⟨RJ0, "length", "()I"⟩
abbrev cJ0_charAt_5068e : ByteArray := prog_17_method_56_code
def yJ0_charAt_5068e : MethodName := ⟨RJ0, "charAt", "(I)C"⟩
abbrev cJ0_coder_7d493 : ByteArray := prog_17_method_152_code
def yJ0_coder_7d493 : MethodName := ⟨RJ0, "coder", "()B"⟩
abbrev cJ0_isLatin1_aae02 : ByteArray := prog_17_method_154_code
def yJ0_isLatin1_aae02 : MethodName := ⟨RJ0, "isLatin1", "()Z"⟩
abbrev cJ0_checkIndex_df160 : ByteArray := prog_17_method_155_code
def yJ0_checkIndex_df160 : MethodName := ⟨RJ0, "checkIndex", "(II)V"⟩
def RJ1 : String := "java/lang/StringLatin1"
def TJ1 : u_T := fun k => match k with
  | _ => ("", "", "", false)
def tyJ1 : Nat → FieldType := fun k => match k with
  | _ => .int
abbrev wsJ10 : List Cond := u_ws RJ1 TJ1 0
theorem nmJ1 : ∀ a, a < 0 → ∀ b, b < 0 → a ≠ b → (TJ1 a).2.1 ≠ (TJ1 b).2.1 := by decide +kernel
theorem tyJ1_ok : ∀ k, k < 0 → parseFieldDescriptor (TJ1 k).2.2.1 = some (tyJ1 k) := by decide +kernel
abbrev cJ1_charAt_3b067 : ByteArray := prog_18_method_2_code
def yJ1_charAt_3b067 : MethodName := ⟨RJ1, "charAt", "([BI)C"⟩
def RJ2 : String := "java/lang/StringUTF16"
def TJ2 : u_T := fun k => match k with
  | _ => ("", "", "", false)
def tyJ2 : Nat → FieldType := fun k => match k with
  | _ => .int
abbrev wsJ20 : List Cond := u_ws RJ2 TJ2 0
theorem nmJ2 : ∀ a, a < 0 → ∀ b, b < 0 → a ≠ b → (TJ2 a).2.1 ≠ (TJ2 b).2.1 := by decide +kernel
theorem tyJ2_ok : ∀ k, k < 0 → parseFieldDescriptor (TJ2 k).2.2.1 = some (tyJ2 k) := by decide +kernel
abbrev cJ2_getChar_3b067 : ByteArray := prog_19_method_5_code
def yJ2_getChar_3b067 : MethodName := ⟨RJ2, "getChar", "([BI)C"⟩
abbrev cJ2_length_9d52b : ByteArray := prog_19_method_6_code
def yJ2_length_9d52b : MethodName := ⟨RJ2, "length", "([B)I"⟩
abbrev cJ2_charAt_3b067 : ByteArray := prog_19_method_83_code
def yJ2_charAt_3b067 : MethodName := ⟨RJ2, "charAt", "([BI)C"⟩
abbrev cJ2_checkIndex_2214a : ByteArray := prog_19_method_91_code
def yJ2_checkIndex_2214a : MethodName := ⟨RJ2, "checkIndex", "(I[B)V"⟩
def RJ10 : String := "java/lang/System"
def TJ10 : u_T := fun k => match k with
  | _ => ("", "", "", false)
def tyJ10 : Nat → FieldType := fun k => match k with
  | _ => .int
abbrev wsJ100 : List Cond := u_ws RJ10 TJ10 0
theorem nmJ10 : ∀ a, a < 0 → ∀ b, b < 0 → a ≠ b → (TJ10 a).2.1 ≠ (TJ10 b).2.1 := by decide +kernel
theorem tyJ10_ok : ∀ k, k < 0 → parseFieldDescriptor (TJ10 k).2.2.1 = some (tyJ10 k) := by decide +kernel
def RJxfd54e : String := "java/lang/constant/Constable"
def TJxfd54e : u_T := fun k => match k with
  | _ => ("", "", "", false)
def tyJxfd54e : Nat → FieldType := fun k => match k with
  | _ => .int
abbrev wsJxfd54e0 : List Cond := u_ws RJxfd54e TJxfd54e 0
theorem nmJxfd54e : ∀ a, a < 0 → ∀ b, b < 0 → a ≠ b → (TJxfd54e a).2.1 ≠ (TJxfd54e b).2.1 := by decide +kernel
theorem tyJxfd54e_ok : ∀ k, k < 0 → parseFieldDescriptor (TJxfd54e k).2.2.1 = some (tyJxfd54e k) := by decide +kernel
def RJx3cf43 : String := "java/lang/constant/ConstantDesc"
def TJx3cf43 : u_T := fun k => match k with
  | _ => ("", "", "", false)
def tyJx3cf43 : Nat → FieldType := fun k => match k with
  | _ => .int
abbrev wsJx3cf430 : List Cond := u_ws RJx3cf43 TJx3cf43 0
theorem nmJx3cf43 : ∀ a, a < 0 → ∀ b, b < 0 → a ≠ b → (TJx3cf43 a).2.1 ≠ (TJx3cf43 b).2.1 := by decide +kernel
theorem tyJx3cf43_ok : ∀ k, k < 0 → parseFieldDescriptor (TJx3cf43 k).2.2.1 = some (tyJx3cf43 k) := by decide +kernel
def RJ7 : String := "java/util/Arrays"
def TJ7 : u_T := fun k => match k with
  | _ => ("", "", "", false)
def tyJ7 : Nat → FieldType := fun k => match k with
  | _ => .int
abbrev wsJ70 : List Cond := u_ws RJ7 TJ7 0
theorem nmJ7 : ∀ a, a < 0 → ∀ b, b < 0 → a ≠ b → (TJ7 a).2.1 ≠ (TJ7 b).2.1 := by decide +kernel
theorem tyJ7_ok : ∀ k, k < 0 → parseFieldDescriptor (TJ7 k).2.2.1 = some (tyJ7 k) := by decide +kernel
abbrev cJ7_fill_53178 : ByteArray := prog_21_method_103_code
def yJ7_fill_53178 : MethodName := ⟨RJ7, "fill", "([II)V"⟩
def RJ3 : String := "jdk/internal/util/Preconditions"
def TJ3 : u_T := fun k => match k with
  | _ => ("", "", "", false)
def tyJ3 : Nat → FieldType := fun k => match k with
  | _ => .int
abbrev wsJ30 : List Cond := u_ws RJ3 TJ3 0
theorem nmJ3 : ∀ a, a < 0 → ∀ b, b < 0 → a ≠ b → (TJ3 a).2.1 ≠ (TJ3 b).2.1 := by decide +kernel
theorem tyJ3_ok : ∀ k, k < 0 → parseFieldDescriptor (TJ3 k).2.2.1 = some (tyJ3 k) := by decide +kernel
abbrev cJ3_checkIndex_8e157 : ByteArray := prog_22_method_11_code
def yJ3_checkIndex_8e157 : MethodName := ⟨RJ3, "checkIndex", "(IILjava/util/function/BiFunction;)I"⟩
def RL : String := "CheeseHillLaw"
abbrev cL_law : ByteArray := code
def yL_law : MethodName := ⟨RL, "law", "([I)Z"⟩
abbrev vwCl : List vw_C := [(RX0, TX0, 0), (RX1, TX1, 2), (RX2, TX2, 0), (RX3, TX3, 1), (RX4, TX4, 13), (RX5, TX5, 5), (RX6, TX6, 0), (RX7, TX7, 5), (RX8, TX8, 0), (RX9, TX9, 0), (RX10, TX10, 4), (RX11, TX11, 15), (RX12, TX12, 24)]
/-- the words that last: of the tables, those that stay as the machine goes on -/
def zU : List Cond := lw_tbl.filter goodWord
theorem zU_mem {w : Cond} (i : Nat) (h : lw_tbl[i]? = some w) (g : goodWord w = true) : w ∈ zU := List.mem_filter.mpr ⟨List.mem_of_getElem? h, g⟩
theorem inX0 : ∀ w ∈ wsX00, w ∈ zU := by decide +kernel
theorem inX1 : ∀ w ∈ wsX10, w ∈ zU := by decide +kernel
theorem inX2 : ∀ w ∈ wsX20, w ∈ zU := by decide +kernel
theorem inX3 : ∀ w ∈ wsX30, w ∈ zU := by decide +kernel
theorem inX4 : ∀ w ∈ wsX40, w ∈ zU := by decide +kernel
theorem inX5 : ∀ w ∈ wsX50, w ∈ zU := by decide +kernel
theorem inX6 : ∀ w ∈ wsX60, w ∈ zU := by decide +kernel
theorem inX7 : ∀ w ∈ wsX70, w ∈ zU := by decide +kernel
theorem inX8 : ∀ w ∈ wsX80, w ∈ zU := by decide +kernel
theorem inX9 : ∀ w ∈ wsX90, w ∈ zU := by decide +kernel
theorem inX10 : ∀ w ∈ wsX100, w ∈ zU := by decide +kernel
theorem inX11 : ∀ w ∈ wsX110, w ∈ zU := by decide +kernel
theorem inX12 : ∀ w ∈ wsX120, w ∈ zU := by decide +kernel
end
section
/-! THE ABSTRACT MACHINE: a state is a shape (cells, slots, what each cell is), ints, longs, references, all by cell and place. Cell i stands at the address base + i. -/
abbrev zM : Type := MethodName × ByteArray × Nat × Option FieldType
abbrev zS : Type := Nat × Nat × (Nat → Nat × Nat)
abbrev zH : Type := zS × (Nat → Nat → Int32) × (Nat → Nat → Int64) × (Nat → Nat → Value)
abbrev zR : Type := Option Value × zH
/-- base; the classes of int and boolean arrays; the tables; where texts and their bytes stand; the script -/
abbrev zG : Type := Nat × (ClassId × ClassId) × va_G × ((Nat → Nat) × (Nat → Nat)) × (Nat × Nat × (Nat → Int32) × Nat)
def zad (G : zG) (i : Nat) : Nat := if i < 1000 then G.1 + i else if i < 1100 then G.2.2.2.1.1 (i - 1000) else if i < 2000 then G.2.2.2.1.2 (i - 1100) else if i < 3000 then G.2.2.2.2.1 else G.2.2.2.2.2.2.2
def ztv (G : zG) : Value → Value
  | .ref i => .ref (zad G i)
  | v => v
theorem ztv_cat (G : zG) (v : Value) : (ztv G v).category = v.category := by cases v <;> rfl
theorem ztv_cats (G : zG) (vs : List Value) : ((vs.map (ztv G)).map fun v => v.category) = vs.map fun v => v.category := by
  rw [List.map_map]
  exact List.map_congr_left fun v _ => ztv_cat G v
def zty (c : Nat) : Nat → FieldType := match c with
  | 0 => tyX0
  | 1 => tyX1
  | 2 => tyX2
  | 3 => tyX3
  | 4 => tyX4
  | 5 => tyX5
  | 6 => tyX6
  | 7 => tyX7
  | 8 => tyX8
  | 9 => tyX9
  | 10 => tyX10
  | 11 => tyX11
  | _ => tyX12
/-- kind of a field: 0 int, 1 long, 2 reference -/
def zfk (c k : Nat) : Nat := match zty c k with
  | .int => 0
  | .long => 1
  | _ => 2
def zfv (G : zG) (h : zH) (c i k : Nat) : Value := match zfk c k with
  | 0 => .int (h.2.1 i k)
  | 1 => .long (h.2.2.1 i k)
  | _ => ztv G (h.2.2.2 i k)
def zce (G : zG) (h : zH) (i : Nat) : va_E :=
  if (h.1.2.2 i).1 = 100 then .inl (G.2.1.1, (h.1.2.2 i).2, .inl (h.2.1 i))
  else if (h.1.2.2 i).1 = 101 then .inl (G.2.1.2, (h.1.2.2 i).2, .inl (h.2.1 i))
  else .inr ((h.1.2.2 i).1, (List.range (h.1.2.2 i).2).map (zfv G h (h.1.2.2 i).1 i))
def zw (G : zG) (h : zH) : va_W := (List.range h.1.1).map (fun i => (G.1 + i, zce G h i))
def zO (G : zG) : Nat → Prop := fun q => G.1 ≤ q
def zup (I : Nat → Nat → Int32) (i j : Nat) (x : Int32) : Nat → Nat → Int32 := fun a b => if a = i ∧ b = j then x else I a b
def zupL (I : Nat → Nat → Int64) (i j : Nat) (x : Int64) : Nat → Nat → Int64 := fun a b => if a = i ∧ b = j then x else I a b
def zupF (I : Nat → Nat → Value) (i j : Nat) (x : Value) : Nat → Nat → Value := fun a b => if a = i ∧ b = j then x else I a b
/-- a row of ints laid over cell i -/
def zrow (I : Nat → Nat → Int32) (i : Nat) (f : Nat → Int32) : Nat → Nat → Int32 := fun a b => if a = i then f b else I a b
theorem zup_row (I : Nat → Nat → Int32) (i j : Nat) (x : Int32) : zup I i j x = zrow I i (upd (I i) j x) := by
  funext a b
  by_cases ha : a = i
  · subst ha
    simp [zup, zrow, upd]
  · simp [zup, zrow, ha]
theorem zw_len (G : zG) (h : zH) : (zw G h).length = h.1.1 := by simp [zw]
theorem zw_get {G : zG} {h : zH} {i : Nat} (hi : i < h.1.1) : (zw G h)[i]? = some (G.1 + i, zce G h i) := by
  simp [zw, hi]
theorem zw_get' {G : zG} {h : zH} {i : Nat} {q : Nat × va_E} (hq : (zw G h)[i]? = some q) : i < h.1.1 ∧ q = (G.1 + i, zce G h i) := by
  have hi : i < h.1.1 := by
    have := (List.getElem?_eq_some_iff.mp hq).1
    rwa [zw_len] at this
  rw [zw_get hi] at hq
  exact ⟨hi, (Option.some.inj hq).symm⟩
/-- one cell is changed -/
theorem zw_set {G : zG} {h h' : zH} {i : Nat} {e : va_E} (hn : h'.1.1 = h.1.1) (he : zce G h' i = e) (ho : ∀ j, j ≠ i → zce G h' j = zce G h j) : (zw G h).set i (G.1 + i, e) = zw G h' := by
  apply List.ext_getElem?
  intro j
  by_cases hj : j < h.1.1
  · rw [zw_get (h := h') (by rw [hn]; exact hj)]
    by_cases hij : j = i
    · subst hij
      rw [List.getElem?_set_self (by rw [zw_len]; exact hj), he]
    · rw [List.getElem?_set_ne (fun q => hij q.symm), zw_get hj, ho j hij]
  · rw [List.getElem?_eq_none (by rw [List.length_set, zw_len]; omega), List.getElem?_eq_none (by rw [zw_len, hn]; omega)]
/-- a cell comes -/
theorem zw_push {G : zG} {h h' : zH} {e : va_E} (hn : h'.1.1 = h.1.1 + 1) (he : zce G h' h.1.1 = e) (ho : ∀ j, j < h.1.1 → zce G h' j = zce G h j) : zw G h ++ [(G.1 + h.1.1, e)] = zw G h' := by
  apply List.ext_getElem?
  intro j
  by_cases hj : j < h.1.1
  · rw [zw_get (h := h') (by rw [hn]; omega), List.getElem?_append_left (by rw [zw_len]; exact hj), zw_get hj, ho j hj]
  · by_cases hj2 : j = h.1.1
    · subst hj2
      rw [zw_get (h := h') (by rw [hn]; omega), List.getElem?_append_right (by rw [zw_len]; exact Nat.le_refl _), zw_len, Nat.sub_self, he]
      rfl
    · rw [List.getElem?_eq_none (by rw [List.length_append, zw_len]; simp; omega), List.getElem?_eq_none (by rw [zw_len, hn]; omega)]
theorem zD {G : zG} {h : zH} : va_D (zO G) (zw G h) := by
  refine ⟨fun i j p q hp hq e => ?_, fun k q hq => ?_⟩
  · obtain ⟨-, rfl⟩ := zw_get' hp
    obtain ⟨-, rfl⟩ := zw_get' hq
    simp at e
    exact e
  · obtain ⟨-, rfl⟩ := zw_get' hq
    exact Nat.le_add_right _ _
def zHr (G : zG) (h : zH) (H : Heap) : Prop := H.size = G.1 + h.1.1 ∧ va_P G.2.2.1 vwCl (zw G h) H ∧ h.1.1 ≤ 1000
theorem zad_lt {G : zG} {i : Nat} (h : i < 1000) : zad G i = G.1 + i := by simp [zad, h]
theorem ztv_lt {G : zG} {i : Nat} (h : i < 1000) : ztv G (.ref i) = .ref (G.1 + i) := by simp [ztv, zad_lt h]
/-- an int array -/
theorem zce_i {G : zG} {h : zH} {i n : Nat} (hs : h.1.2.2 i = (100, n)) : zce G h i = .inl (G.2.1.1, n, .inl (h.2.1 i)) := by simp [zce, hs]
theorem zce_z {G : zG} {h : zH} {i n : Nat} (hs : h.1.2.2 i = (101, n)) : zce G h i = .inl (G.2.1.2, n, .inl (h.2.1 i)) := by simp [zce, hs]
theorem zce_o {G : zG} {h : zH} {i c n : Nat} (hs : h.1.2.2 i = (c, n)) (hc : c < 100) : zce G h i = .inr (c, (List.range n).map (zfv G h c i)) := by
  have h1 : ¬ c = 100 := by omega
  have h2 : ¬ c = 101 := by omega
  simp [zce, hs, h1, h2]
theorem zce_congr {G : zG} {h h' : zH} {i : Nat} (hs : h'.1.2.2 i = h.1.2.2 i) (hI : h'.2.1 i = h.2.1 i) (hL : h'.2.2.1 i = h.2.2.1 i) (hF : h'.2.2.2 i = h.2.2.2 i) : zce G h' i = zce G h i := by
  have hz : ∀ c, zfv G h' c i = zfv G h c i := by
    intro c
    funext k
    simp only [zfv, hI, hL, hF]
  simp only [zce, hs, hI, hz]
theorem zup_ne {I : Nat → Nat → Int32} {i j : Nat} {x : Int32} {a : Nat} (h : a ≠ i) : zup I i j x a = I a := by
  funext b
  simp [zup, h]
theorem zupL_ne {I : Nat → Nat → Int64} {i j : Nat} {x : Int64} {a : Nat} (h : a ≠ i) : zupL I i j x a = I a := by
  funext b
  simp [zupL, h]
theorem zupF_ne {I : Nat → Nat → Value} {i j : Nat} {x : Value} {a : Nat} (h : a ≠ i) : zupF I i j x a = I a := by
  funext b
  simp [zupF, h]
theorem zup_self (I : Nat → Nat → Int32) (i j : Nat) (x : Int32) : zup I i j x i = upd (I i) j x := by
  funext b
  simp [zup, upd]
theorem zrow_ne {I : Nat → Nat → Int32} {i : Nat} {f : Nat → Int32} {a : Nat} (h : a ≠ i) : zrow I i f a = I a := by
  funext b
  simp [zrow, h]
theorem zrow_self (I : Nat → Nat → Int32) (i : Nat) (f : Nat → Int32) : zrow I i f i = f := by
  funext b
  simp [zrow]
/-! locals -/
def zk2 : Option Value → Option Value
  | some (.long _) => none
  | some (.double _) => none
  | o => o
def zst : List (Option Value) → Nat → Value → List (Option Value)
  | [], _, _ => []
  | _ :: t, 0, v => some v :: t
  | a :: b :: t, 1, v => zk2 a :: some v :: t
  | [a], 1, _ => [zk2 a]
  | a :: t, k + 2, v => a :: zst t (k + 1) v
def zst2 (ls : List (Option Value)) (i : Nat) (v : Value) : List (Option Value) := (zst ls i v).set (i + 1) none
theorem zk2_some {o : Option Value} {w : Value} (h : zk2 o = some w) : o = some w ∧ ¬ w.category = 2 := by
  cases o with
  | none => simp [zk2] at h
  | some v => cases v <;> simp_all [zk2] <;> (subst h; simp [Value.category])
theorem zst_spec : ∀ (ls : List (Option Value)) (i : Nat) (v : Value) (k : Nat) (w : Value), (zst ls i v)[k]? = some (some w) → (k = i ∧ w = v) ∨ (k ≠ i ∧ ls[k]? = some (some w) ∧ ¬ (k + 1 = i ∧ w.category = 2))
  | [], i, v, k, w, h => by simp [zst] at h
  | a :: t, 0, v, k, w, h => by
    cases k with
    | zero => simp [zst] at h; exact Or.inl ⟨rfl, h.symm⟩
    | succ k => simp [zst] at h; exact Or.inr ⟨by omega, by simpa using h, by omega⟩
  | a :: b :: t, 1, v, k, w, h => by
    match k with
    | 0 =>
      simp [zst] at h
      obtain ⟨h1, h2⟩ := zk2_some h
      exact Or.inr ⟨by omega, by simp [h1], fun q => h2 q.2⟩
    | 1 => simp [zst] at h; exact Or.inl ⟨rfl, h.symm⟩
    | k + 2 => simp [zst] at h; exact Or.inr ⟨by omega, by simpa using h, by omega⟩
  | [a], 1, v, k, w, h => by
    match k with
    | 0 =>
      simp [zst] at h
      obtain ⟨h1, h2⟩ := zk2_some h
      exact Or.inr ⟨by omega, by simp [h1], fun q => h2 q.2⟩
    | k + 1 => simp [zst] at h
  | a :: t, i + 2, v, k, w, h => by
    match k with
    | 0 =>
      simp [zst] at h
      exact Or.inr ⟨by omega, by simp [h], by omega⟩
    | k + 1 =>
      simp [zst] at h
      rcases zst_spec t (i + 1) v k w h with ⟨h1, h2⟩ | ⟨h1, h2, h3⟩
      · exact Or.inl ⟨by omega, h2⟩
      · exact Or.inr ⟨by omega, by simpa using h2, fun q => h3 ⟨by omega, q.2⟩⟩
theorem zst2_spec {ls : List (Option Value)} {i : Nat} {v : Value} {k : Nat} {w : Value} (h : (zst2 ls i v)[k]? = some (some w)) : (k = i ∧ w = v) ∨ (k ≠ i ∧ k ≠ i + 1 ∧ ls[k]? = some (some w) ∧ ¬ (k + 1 = i ∧ w.category = 2)) := by
  unfold zst2 at h
  by_cases hk : k = i + 1
  · subst hk
    rw [List.getElem?_set] at h
    simp at h
  · rw [List.getElem?_set_ne (fun q => hk q.symm)] at h
    rcases zst_spec _ _ _ _ _ h with q | ⟨q1, q2, q3⟩
    · exact Or.inl q
    · exact Or.inr ⟨q1, hk, q2, q3⟩
/-- the locals' relation -/
def zLr (G : zG) (ls : List (Option Value)) (n : Nat) (LS : Array Slot) : Prop := LS.size = n ∧ lv_wf LS ∧ ∀ (k : Nat) (v : Value), ls[k]? = some (some v) → LS[k]? = some (.val (ztv G v))
def zll (G : zG) (ls : List (Option Value)) : List (Nat × Value) := ls.zipIdx.filterMap (fun q => q.1.map (fun v => (q.2, ztv G v)))
theorem zll_mem {G : zG} {ls : List (Option Value)} {q : Nat × Value} : q ∈ zll G ls ↔ ∃ v, ls[q.1]? = some (some v) ∧ q.2 = ztv G v := by
  unfold zll
  rw [List.mem_filterMap]
  constructor
  · rintro ⟨⟨o, k⟩, h1, h2⟩
    rw [List.mem_zipIdx_iff_getElem?] at h1
    cases o with
    | none => simp at h2
    | some v =>
      simp at h2
      subst h2
      exact ⟨v, by simpa using h1, rfl⟩
  · rintro ⟨v, h1, h2⟩
    refine ⟨(some v, q.1), ?_, ?_⟩
    · rw [List.mem_zipIdx_iff_getElem?]
      simpa using h1
    · simp [← h2]
theorem zLr.has {G : zG} {ls : List (Option Value)} {n : Nat} {LS : Array Slot} (h : zLr G ls n LS) : lv_has LS n (zll G ls) := by
  refine ⟨h.1, h.2.1, fun q hq => ?_⟩
  obtain ⟨v, h1, h2⟩ := zll_mem.mp hq
  rw [h2]
  exact h.2.2 _ _ h1
theorem zLr.st1 {G : zG} {ls : List (Option Value)} {n i : Nat} {v : Value} {LS : Array Slot} (h : lv_has LS n ((i, ztv G v) :: (zll G ls).filter (fun q => !(q.1 == i) && !(q.1 + 1 == i && q.2.category == 2)))) : zLr G (zst ls i v) n LS := by
  refine ⟨h.1, h.2.1, fun k w hk => ?_⟩
  rcases zst_spec _ _ _ _ _ hk with ⟨h1, h2⟩ | ⟨h1, h2, h3⟩
  · subst h1; subst h2
    exact h.2.2 (k, ztv G w) List.mem_cons_self
  · refine h.2.2 (k, ztv G w) (List.mem_cons_of_mem _ (List.mem_filter.mpr ⟨zll_mem.mpr ⟨w, h2, rfl⟩, ?_⟩))
    simp [ztv_cat, h1]
    exact Decidable.not_and_iff_or_not.mp h3
theorem zLr.st2 {G : zG} {ls : List (Option Value)} {n i : Nat} {v : Value} {LS : Array Slot} (h : lv_has LS n ((i, ztv G v) :: (zll G ls).filter (fun q => !(q.1 == i) && (!(q.1 == i + 1) && !(q.1 + 1 == i && q.2.category == 2))))) : zLr G (zst2 ls i v) n LS := by
  refine ⟨h.1, h.2.1, fun k w hk => ?_⟩
  rcases zst2_spec hk with ⟨h1, h2⟩ | ⟨h1, h1', h2, h3⟩
  · subst h1; subst h2
    exact h.2.2 (k, ztv G w) List.mem_cons_self
  · refine h.2.2 (k, ztv G w) (List.mem_cons_of_mem _ (List.mem_filter.mpr ⟨zll_mem.mpr ⟨w, h2, rfl⟩, ?_⟩))
    simp [ztv_cat, h1, h1']
    exact Decidable.not_and_iff_or_not.mp h3
def zent : List Value → Nat → List (Option Value)
  | [], n => List.replicate n none
  | v :: vs, n => if v.category = 2 then some v :: none :: zent vs (n - 2) else some v :: zent vs (n - 1)
theorem zent_spec {G : zG} : ∀ (vs : List Value) (n i k : Nat) (w : Value), (zent vs n)[k]? = some (some w) → (i + k, ztv G w) ∈ lv_args i (vs.map (ztv G))
  | [], n, i, k, w, h => by
    simp only [zent] at h
    rw [List.getElem?_replicate] at h
    split at h <;> simp at h
  | v :: vs, n, i, k, w, h => by
    simp only [zent] at h
    simp only [List.map_cons, lv_args, ztv_cat]
    by_cases hc : v.category = 2
    · rw [if_pos hc] at h ⊢
      match k with
      | 0 =>
        simp at h
        subst h
        exact List.mem_cons_self
      | 1 => simp at h
      | k + 2 =>
        simp at h
        have := zent_spec (G := G) vs (n - 2) (i + 2) k w h
        rw [show i + (k + 2) = i + 2 + k by omega]
        exact List.mem_cons_of_mem _ this
    · rw [if_neg hc] at h ⊢
      match k with
      | 0 =>
        simp at h
        subst h
        exact List.mem_cons_self
      | k + 1 =>
        simp at h
        have := zent_spec (G := G) vs (n - 1) (i + 1) k w h
        rw [show i + (k + 1) = i + 1 + k by omega]
        exact List.mem_cons_of_mem _ this
end
section
/-! WHAT STANDS ALL THE TIME (zK), a method's frame (zC), the judgement (zA), a call's contract (zCall) -/
def zNest : List (String × Nat × MethodName) := [(RX11, 11, yX4_init), (RX11, 27, yX5_init), (RX5, 9, yX9_init), (RX5, 18, yX6_init), (RX6, 3, yX9_init), (RX5, 24, yX8_init), (RX8, 3, yX6_init), (RX5, 30, yX2_init), (RX2, 1, yX9_init), (RX5, 36, yX0_init), (RX0, 3, yX9_init), (RX11, 34, yX10_init), (RX11, 41, yX3_init), (RX11, 48, yX1_init), (RX11, 55, yX7_init), (RX4, 64, yX11_within), (RX4, 72, yX11_onLine), (RX7, 103, yX11_within), (RX7, 85, yX11_cell), (RX7, 97, yX11_onLine), (RX10, 54, yX11_cell), (RX10, 67, yX11_onWay), (RX10, 80, yX11_onLine), (RX3, 34, yX11_cell), (RX1, 36, yX11_cell)]
/-- the texts: their entries in the pool of Text, their words -/
def zTx : List (Nat × String) := [(37, "hill"), (57, "slope"), (65, "ground"), (69, "runner"), (74, "line")]
def zLen : List Nat := [4, 5, 6, 6, 4]
def zByt : List (List Int32) := [[104, 105, 108, 108], [115, 108, 111, 112, 101], [103, 114, 111, 117, 110, 100], [114, 117, 110, 110, 101, 114], [108, 105, 110, 101]]
def zK (G : zG) (U : State) : Prop :=
  va_K G.2.2.1 vwCl [(G.2.1.1, .int), (G.2.1.2, .boolean)] U ∧
  (∀ q ∈ zNest, va_Nw (.methodLinkNest q.1 q.2.1 q.2.2 "CheeseHill") U) ∧
  (∀ (k : Nat) (q : Nat × String), zTx[k]? = some q → vk_R RX7 q.1 q.2 (G.2.2.2.1.1 k) U) ∧
  vk_S 5 zLen zByt G.2.2.2.1.1 G.2.2.2.1.2 (zO G) U U.heap ∧
  va_Z "java/lang/String" "COMPACT_STRINGS" "Z" (.int 1) (zO G) U U.heap ∧
  (va_Z "jdk/internal/util/Preconditions" "SIOOBE_FORMATTER" "Ljava/util/function/BiFunction;" .null (zO G) U U.heap ∨ va_Z "jdk/internal/util/Preconditions" "SIOOBE_FORMATTER" "Ljava/util/function/BiFunction;" (.ref G.2.2.2.2.2.2.2) (zO G) U U.heap) ∧
  va_X G.2.2.2.2.1 G.2.2.2.2.2.1 G.2.2.2.2.2.2.1 U U.heap ∧ G.2.2.2.2.1 < G.1 ∧ G.1 ≤ U.heap.size
theorem zK.kept {G : zG} {s U : State} {H : Heap} {locs : List Loc} (h : zK G s) (hS : va_S (zO G) s.heap H locs) (hU : U.heap = H) (hW : s.WarmedH U.vm) : zK G U := by
  obtain ⟨h1, h2, h3, h4, h5, h6, h7, h8, h9⟩ := h
  have hk : ∀ a : Nat, a < s.heap.size → ¬ zO G a → U.heap[a]? = s.heap[a]? := fun a ha hn => by rw [hU]; exact hS.2.1 a ha hn
  refine ⟨va_K.moved hW.alike h1, fun q hq => va_Nw.warmM hW (h2 q hq), fun k q hq => vk_R.warm hW (h3 k q hq), (vk_S.moved hW.alike h4).kept hk, (va_Z.moved hW.alike h5).kept hk, h6.elim (fun q => Or.inl ((va_Z.moved hW.alike q).kept hk)) (fun q => Or.inr ((va_Z.moved hW.alike q).kept hk)), (va_X.moved hW.alike h7).kept (hk _ (Nat.lt_of_lt_of_le h8 h9) (Nat.not_le.mpr h8)), h8, ?_⟩
  rw [hU]
  exact Nat.le_trans h9 hS.1
theorem zK.blind {G : zG} {U : State} {g : JFrame} {mk : MethodId} {a : Array Value} (h : zK G U) : zK G (U.calling g mk a) := by
  obtain ⟨h1, h2, h3, h4, h5, h6, h7, h8, h9⟩ := h
  refine ⟨va_K.moved (u := U) (Vm.Alike.refl U.vm) h1, fun q hq => va_Nw.same rfl (u := U) rfl (h2 q hq), fun k q hq => vk_R.same (u := U) rfl (h3 k q hq), vk_S.moved (u := U) (Vm.Alike.refl U.vm) h4, va_Z.moved (u := U) (Vm.Alike.refl U.vm) h5, h6.elim (fun q => Or.inl (va_Z.moved (u := U) (Vm.Alike.refl U.vm) q)) (fun q => Or.inr (va_Z.moved (u := U) (Vm.Alike.refl U.vm) q)), va_X.moved (u := U) (Vm.Alike.refl U.vm) h7, h8, h9⟩
def zC (G : zG) (d : Nat) (M : zM) (p : Program) (Rm : Room) (s : State) (m : MethodId) (args : Array Value) (meth : Method) (c : Code) : Prop :=
  p.tables.exec = Jvm.exec ∧ c.code = M.2.1 ∧ c.maxLocals = M.2.2.1 ∧ s.vm.findClass M.1.cls = some m.cls ∧ (∀ w ∈ zU, w.before args s = true) ∧ zK G s ∧ meth.name = M.1.name ∧ d ≤ Rm.frames ∧ 64 * d ≤ Rm.locals
/-- which answer an instruction gives back -/
def zOk (M : zM) (v : Option Value) (ins : Instr) : Prop :=
  (ins = .ireturn ∧ ∃ (x : Int32) (ty : FieldType), v = some (.int x) ∧ M.2.2.2 = some ty ∧ narrow ty (.int x) = .int x) ∨
  (ins = .lreturn ∧ ∃ x : Int64, v = some (.long x) ∧ M.2.2.2 = some .long) ∨
  (ins = .areturn ∧ ∃ (i : Nat) (n : String), v = some (.ref i) ∧ M.2.2.2 = some (.object n)) ∨
  (ins = .return_ ∧ v = none ∧ M.2.2.2 = none)
def zRet (G : zG) (M : zM) (R : zR) (p : Program) (l : Launch) (e : Env) (Rm : Room) (s : State) (m : MethodId) (args : Array Value) (below : List Frame) (meth : Method) (c : Code) (n0 s0 : Nat) (Q : State → Prop) : Prop :=
  ∀ (H : Heap) (locs : List Loc) (pc : Nat) (LS : Array Slot) (ins : Instr), zHr G R.2 H → va_S (zO G) s.heap H locs → decode M.2.1 pc = .ok (ins, 1) → zOk M R.1 ins →
    W p l e Rm s m args below meth c H locs (R.2.1.1 - n0) (R.2.1.2.1 - s0) Q (F0 m pc LS (R.1.map (ztv G)).toList)
/-- THE JUDGEMENT: from frame (pc, locals, stack) over the state h the method M comes to its end with R -/
def zA (G : zG) (d : Nat) (M : zM) (pc : Nat) (ls : List (Option Value)) (st : List Value) (h : zH) (R : zR) : Prop :=
  ∀ (p : Program) (l : Launch) (e : Env) (Rm : Room) (s : State) (m : MethodId) (args : Array Value) (below : List Frame) (meth : Method) (c : Code) (n0 s0 : Nat) (Q : State → Prop) (H : Heap) (locs : List Loc) (LS : Array Slot),
    zC G d M p Rm s m args meth c → (s.heap.size = G.1 + n0 ∧ n0 ≤ h.1.1 ∧ s0 ≤ h.1.2.1 ∧ R.2.1.1 - n0 ≤ Rm.cells ∧ R.2.1.2.1 - s0 ≤ Rm.slots) → zHr G h H → va_S (zO G) s.heap H locs → zLr G ls M.2.2.1 LS →
    zRet G M R p l e Rm s m args below meth c n0 s0 Q →
    W p l e Rm s m args below meth c H locs (h.1.1 - n0) (h.1.2.1 - s0) Q (F0 m pc LS (st.map (ztv G)))
def zws (M : zM) : List Cond := .code M.1 M.2.1 M.2.2.1 M.2.2.2 :: zU
def zrm (d mc ms : Nat) : Room := { frames := d, cells := mc, slots := ms, locals := 64 * d }
def zPc (G : zG) (args : List Value) (h : zH) : Array Value → State → Prop := fun v U => v = (args.map (ztv G)).toArray ∧ zHr G h U.heap ∧ zK G U
def zQc (G : zG) (R : zR) : Array Value → State → Outcome → State → Prop := fun _ st o t => o = .returned (R.1.map (ztv G)) ∧ zHr G R.2 t.heap ∧ va_F (zO G) st t
/-- A CALL of M on args over h ends with R -/
def zCall (d : Nat) (M : zM) (args : List Value) (h : zH) (R : zR) : Prop :=
  (h.1.1 ≤ R.2.1.1 ∧ h.1.2.1 ≤ R.2.1.2.1) ∧ ∀ (G : zG) (l : Launch), Met l M.1 (zws M) (zrm d (R.2.1.1 - h.1.1) (R.2.1.2.1 - h.1.2.1)) (zPc G args h) (zQc G R) (R.2.1.1 - h.1.1) (R.2.1.2.1 - h.1.2.1) (zO G)
theorem zPc_blind {G : zG} {args : List Value} {h : zH} : FrameBlind (zPc G args h) := fun _ _ _ _ q => ⟨q.1, q.2.1, q.2.2.blind⟩
/-- what a method's words must be -/
def zMok (M : zM) : Prop := plainName M.1.cls = true ∧ Cond.code M.1 M.2.1 M.2.2.1 M.2.2.2 ∈ zU ∧ Cond.initialized M.1.cls ∈ zU ∧ (M.1.cls ≠ "java/lang/invoke/MethodHandle" ∧ M.1.cls ≠ "java/lang/invoke/VarHandle") ∧ M.2.2.1 + 19 ≤ 64
theorem zU_good {w : Cond} (h : w ∈ zU) : (w.onTables && w.keeps) = true ∨ ∃ ty, w = .arrayClass ty := good_of_word (List.mem_filter.mp h).2
theorem zGood {M : zM} (h : zMok M) : GoodIn zU (zws M) := by
  intro w hw
  rcases List.mem_cons.mp hw with rfl | hw
  · exact ⟨h.2.1, zU_good h.2.1⟩
  · exact ⟨hw, zU_good hw⟩
theorem zslots {G : zG} (vs : List Value) : (lg_sl (vs.map (ztv G))).length = (vs.map fun v => v.category).sum := by
  induction vs with
  | nil => rfl
  | cons v vs ih =>
    simp only [lg_sl, List.map_cons, List.flatMap_cons, List.length_append, List.sum_cons] at ih ⊢
    rw [ih, ztv_cat]
    rcases lv_cat v with h | h <;> simp [h]
set_option maxHeartbeats 1000000 in
theorem zCall.of {d : Nat} {M : zM} {args : List Value} {h : zH} {R : zR} (hM : zMok M) (ha : (args.map fun v => v.category).sum ≤ M.2.2.1) (hm : h.1.1 ≤ R.2.1.1 ∧ h.1.2.1 ≤ R.2.1.2.1) (K : ∀ G : zG, zA G d M 0 (zent args M.2.2.1) [] h R) : zCall d M args h R := by
  refine ⟨hm, fun G l => ?_⟩
  refine Met.ofW (cc := M.2.1) (maxL := M.2.2.1) (ret := M.2.2.2) hM.1 rfl ?_
  intro p e s m a below meth c s₁ B hml hv
  obtain ⟨rfl, hH, hK⟩ := hv
  have hx := B.exec
  have hb := B.bytes
  have hr := B.returns
  have hts := atoms_spec (ws := zws M) B.pre
  have hown : s.vm.findClass M.1.cls = some m.cls := findClass_of_methodNamed B.named
  have hlocks := B.notSynchronized
  have hin : meth.name = M.1.name := (name_of_methodNamed B.named B.method).1
  have hle : (lg_sl (args.map (ztv G))).length ≤ M.2.2.1 := by rw [zslots]; exact ha
  have hl := lv_entry (args.map (ztv G)) hle
  rw [lg_entry_eq]
  generalize (lg_sl (args.map (ztv G)) ++ List.replicate (M.2.2.1 - (lg_sl (args.map (ztv G))).length) Slot.unset).toArray = LS at hl ⊢
  have hL : zLr G (zent args M.2.2.1) M.2.2.1 LS := ⟨hl.1, hl.2.1, fun k v hk => by
    have := zent_spec (G := G) args M.2.2.1 0 k v hk
    rw [Nat.zero_add] at this
    exact hl.2.2 _ this⟩
  have hC : zC G d M p (zrm d (R.2.1.1 - h.1.1) (R.2.1.2.1 - h.1.2.1)) s m (args.map (ztv G)).toArray meth c := ⟨hx, hb, hml, hown, fun w hw => hts w (List.mem_cons_of_mem _ hw), hK, hin, Nat.le_refl _, Nat.le_refl _⟩
  have hW := K G p l e (zrm d (R.2.1.1 - h.1.1) (R.2.1.2.1 - h.1.2.1)) s m (args.map (ztv G)).toArray below meth c h.1.1 h.1.2.1 (MQ below (zQc G R) (args.map (ztv G)).toArray s (R.2.1.1 - h.1.1) (R.2.1.2.1 - h.1.2.1) (zO G)) s.heap [] LS hC ⟨hH.1, Nat.le_refl _, Nat.le_refl _, Nat.le_refl _, Nat.le_refl _⟩ hH va_S.rf hL ?_
  · rw [Nat.sub_self, Nat.sub_self] at hW
    exact hW
  · intro H locs pc LS ins hH hS hdg hok
    rcases hok with ⟨rfl, x, ty, hv, hty, hn⟩ | ⟨rfl, x, hv, hty⟩ | ⟨rfl, i, n, hv, hty⟩ | ⟨rfl, hv, hty⟩
    · have hQ : ∀ t : State, t.heap = H → s.WarmedH t.vm → zQc G R (args.map (ztv G)).toArray s (.returned (some (.int x))) t := fun t ht _ => ⟨by rw [hv]; rfl, by rw [ht]; exact hH, hS.F ht⟩
      rw [hv]
      exact W.zret hx hb (hr.trans hty) hn hQ hS.2.2 hdg
    · have hQ : ∀ t : State, t.heap = H → s.WarmedH t.vm → zQc G R (args.map (ztv G)).toArray s (.returned (some (.long x))) t := fun t ht _ => ⟨by rw [hv]; rfl, by rw [ht]; exact hH, hS.F ht⟩
      rw [hv]
      exact W.lret hx hb (hr.trans hty) hQ hS.2.2 hdg
    · have hQ : ∀ t : State, t.heap = H → s.WarmedH t.vm → zQc G R (args.map (ztv G)).toArray s (.returned (some (.ref (zad G i)))) t := fun t ht _ => ⟨by rw [hv]; rfl, by rw [ht]; exact hH, hS.F ht⟩
      rw [hv]
      exact W.aret hx hb (hr.trans hty) (Or.inl ⟨n, rfl⟩) (Or.inr ⟨_, rfl⟩) hQ hS.2.2 hdg
    · have hQ : ∀ t : State, t.heap = H → s.WarmedH t.vm → zQc G R (args.map (ztv G)).toArray s (.returned none) t := fun t ht _ => ⟨by rw [hv]; rfl, by rw [ht]; exact hH, hS.F ht⟩
      rw [hv]
      exact W.vret hx hb (hr.trans hty) hQ hS.2.2 hdg
theorem zMet.mono {l : Launch} {y : MethodName} {ws : List Cond} {d d' mc ms : Nat} {Pc : Array Value → State → Prop} {Qc : Array Value → State → Outcome → State → Prop} {free : Addr → Prop} (hd : d = d') (h : Met l y ws (zrm d mc ms) Pc Qc mc ms free) : Met l y ws (zrm d' mc ms) Pc Qc mc ms free := hd ▸ h
end
section
/-! RULES of the judgement, an instruction each -/
theorem zi_dep {G : zG} {d d' : Nat} {M : zM} {pc : Nat} {ls : List (Option Value)} {st : List Value} {h : zH} {R : zR} (hd : d ≤ d') (K : zA G d M pc ls st h R) : zA G d' M pc ls st h R := fun p l e Rm s m args below meth c n0 s0 Q H locs LS C hn hH hS hL hQ => K p l e Rm s m args below meth c n0 s0 Q H locs LS ⟨C.1, C.2.1, C.2.2.1, C.2.2.2.1, C.2.2.2.2.1, C.2.2.2.2.2.1, C.2.2.2.2.2.2.1, Nat.le_trans hd C.2.2.2.2.2.2.2.1, Nat.le_trans (Nat.mul_le_mul_left 64 hd) C.2.2.2.2.2.2.2.2⟩ hn hH hS hL hQ
section ZRULES
variable {G : zG} {d : Nat} {M : zM} {pc : Nat} {ls : List (Option Value)} {st : List Value} {h : zH} {R : zR}
theorem zi_iconst {n : Int} {v : Int32} (hd : decode M.2.1 pc = .ok (.iconst n, 1)) (hv : Int32.ofInt n = v) (K : zA G d M (pc + 1) ls (.int v :: st) h R) : zA G d M pc ls (st) h R := by
  intro p l e Rm s m args below meth c n0 s0 Q H locs LS C hn hH hS hL hQ
  exact lv_iconst C.1 C.2.1 hd hv (K p l e Rm s m args below meth c n0 s0 Q H locs LS C hn hH hS hL hQ)
theorem zi_bipush {n : Int} {v : Int32} (hd : decode M.2.1 pc = .ok (.bipush n, 2)) (hv : (Int8.ofInt n).toInt32 = v) (K : zA G d M (pc + 2) ls (.int v :: st) h R) : zA G d M pc ls (st) h R := by
  intro p l e Rm s m args below meth c n0 s0 Q H locs LS C hn hH hS hL hQ
  exact lv_bipush C.1 C.2.1 hd hv (K p l e Rm s m args below meth c n0 s0 Q H locs LS C hn hH hS hL hQ)
theorem zi_sipush {n : Int} {v : Int32} (hd : decode M.2.1 pc = .ok (.sipush n, 3)) (hv : (Int16.ofInt n).toInt32 = v) (K : zA G d M (pc + 3) ls (.int v :: st) h R) : zA G d M pc ls (st) h R := by
  intro p l e Rm s m args below meth c n0 s0 Q H locs LS C hn hH hS hL hQ
  exact lv_sipush C.1 C.2.1 hd hv (K p l e Rm s m args below meth c n0 s0 Q H locs LS C hn hH hS hL hQ)
theorem zi_lconst {n : Fin 2} {v : Int64} (hd : decode M.2.1 pc = .ok (.lconst n, 1)) (hv : Int64.ofNat (n : Nat) = v) (K : zA G d M (pc + 1) ls (.long v :: st) h R) : zA G d M pc ls (st) h R := by
  intro p l e Rm s m args below meth c n0 s0 Q H locs LS C hn hH hS hL hQ
  exact lv_lconst C.1 C.2.1 hd hv (K p l e Rm s m args below meth c n0 s0 Q H locs LS C hn hH hS hL hQ)
theorem zi_ldc {ix : Nat} {v : Int32} (hd : decode M.2.1 pc = .ok (.ldc ix, 2)) (hc : Cond.constant M.1.cls ix v ∈ zU) (K : zA G d M (pc + 2) ls (.int v :: st) h R) : zA G d M pc ls (st) h R := by
  intro p l e Rm s m args below meth c n0 s0 Q H locs LS C hn hH hS hL hQ
  exact lv_ldc C.1 C.2.1 C.2.2.2.1 (C.2.2.2.2.1 _ hc) hd (K p l e Rm s m args below meth c n0 s0 Q H locs LS C hn hH hS hL hQ)
theorem zi_ldcw {ix : Nat} {v : Int32} (hd : decode M.2.1 pc = .ok (.ldc_w ix, 3)) (hc : Cond.constant M.1.cls ix v ∈ zU) (K : zA G d M (pc + 3) ls (.int v :: st) h R) : zA G d M pc ls (st) h R := by
  intro p l e Rm s m args below meth c n0 s0 Q H locs LS C hn hH hS hL hQ
  exact lv_ldcw C.1 C.2.1 C.2.2.2.1 (C.2.2.2.2.1 _ hc) hd (K p l e Rm s m args below meth c n0 s0 Q H locs LS C hn hH hS hL hQ)
theorem zi_ldc2 {ix : Nat} {v : Int64} (hd : decode M.2.1 pc = .ok (.ldc2_w ix, 3)) (hc : Cond.constantLong M.1.cls ix v ∈ zU) (K : zA G d M (pc + 3) ls (.long v :: st) h R) : zA G d M pc ls (st) h R := by
  intro p l e Rm s m args below meth c n0 s0 Q H locs LS C hn hH hS hL hQ
  exact lv_ldc2 C.1 C.2.1 C.2.2.2.1 (C.2.2.2.2.1 _ hc) hd (K p l e Rm s m args below meth c n0 s0 Q H locs LS C hn hH hS hL hQ)
theorem zi_iload_n {k : Fin 4} {i : Nat} {x : Int32} (hd : decode M.2.1 pc = .ok (.iload_n k, 1)) (hi : (k : Nat) = i) (hx : ls[i]? = some (some (.int x))) (K : zA G d M (pc + 1) ls (.int x :: st) h R) : zA G d M pc ls (st) h R := by
  intro p l e Rm s m args below meth c n0 s0 Q H locs LS C hn hH hS hL hQ
  exact lv_iload_n C.1 C.2.1 hd hi (hL.2.2 i _ hx) (K p l e Rm s m args below meth c n0 s0 Q H locs LS C hn hH hS hL hQ)
theorem zi_iload {i : Nat} {x : Int32} (hd : decode M.2.1 pc = .ok (.iload i, 2)) (hx : ls[i]? = some (some (.int x))) (K : zA G d M (pc + 2) ls (.int x :: st) h R) : zA G d M pc ls (st) h R := by
  intro p l e Rm s m args below meth c n0 s0 Q H locs LS C hn hH hS hL hQ
  exact lv_iload C.1 C.2.1 hd (hL.2.2 i _ hx) (K p l e Rm s m args below meth c n0 s0 Q H locs LS C hn hH hS hL hQ)
theorem zi_istore_n {k : Fin 4} {i : Nat} {x : Int32} (hd : decode M.2.1 pc = .ok (.istore_n k, 1)) (hi : (k : Nat) = i) (hb : i < M.2.2.1) (K : zA G d M (pc + 1) (zst ls i (.int x)) st h R) : zA G d M pc ls (.int x :: st) h R := by
  intro p l e Rm s m args below meth c n0 s0 Q H locs LS C hn hH hS hL hQ
  exact lv_istore_n C.1 C.2.1 hd hi hL.has hb rfl (fun LS' hl => K p l e Rm s m args below meth c n0 s0 Q H locs LS' C hn hH hS (zLr.st1 hl) hQ)
theorem zi_istore {i : Nat} {x : Int32} (hd : decode M.2.1 pc = .ok (.istore i, 2)) (hb : i < M.2.2.1) (K : zA G d M (pc + 2) (zst ls i (.int x)) st h R) : zA G d M pc ls (.int x :: st) h R := by
  intro p l e Rm s m args below meth c n0 s0 Q H locs LS C hn hH hS hL hQ
  exact lv_istore C.1 C.2.1 hd hL.has hb rfl (fun LS' hl => K p l e Rm s m args below meth c n0 s0 Q H locs LS' C hn hH hS (zLr.st1 hl) hQ)
theorem zi_lload_n {k : Fin 4} {i : Nat} {x : Int64} (hd : decode M.2.1 pc = .ok (.lload_n k, 1)) (hi : (k : Nat) = i) (hx : ls[i]? = some (some (.long x))) (K : zA G d M (pc + 1) ls (.long x :: st) h R) : zA G d M pc ls (st) h R := by
  intro p l e Rm s m args below meth c n0 s0 Q H locs LS C hn hH hS hL hQ
  exact lv_lload_n C.1 C.2.1 hd hi (hL.2.2 i _ hx) (K p l e Rm s m args below meth c n0 s0 Q H locs LS C hn hH hS hL hQ)
theorem zi_lload {i : Nat} {x : Int64} (hd : decode M.2.1 pc = .ok (.lload i, 2)) (hx : ls[i]? = some (some (.long x))) (K : zA G d M (pc + 2) ls (.long x :: st) h R) : zA G d M pc ls (st) h R := by
  intro p l e Rm s m args below meth c n0 s0 Q H locs LS C hn hH hS hL hQ
  exact lv_lload C.1 C.2.1 hd (hL.2.2 i _ hx) (K p l e Rm s m args below meth c n0 s0 Q H locs LS C hn hH hS hL hQ)
theorem zi_lstore_n {k : Fin 4} {i : Nat} {x : Int64} (hd : decode M.2.1 pc = .ok (.lstore_n k, 1)) (hi : (k : Nat) = i) (hb : i + 1 < M.2.2.1) (K : zA G d M (pc + 1) (zst2 ls i (.long x)) st h R) : zA G d M pc ls (.long x :: st) h R := by
  intro p l e Rm s m args below meth c n0 s0 Q H locs LS C hn hH hS hL hQ
  exact lv_lstore_n C.1 C.2.1 hd hi hL.has hb rfl (fun LS' hl => K p l e Rm s m args below meth c n0 s0 Q H locs LS' C hn hH hS (zLr.st2 hl) hQ)
theorem zi_lstore {i : Nat} {x : Int64} (hd : decode M.2.1 pc = .ok (.lstore i, 2)) (hb : i + 1 < M.2.2.1) (K : zA G d M (pc + 2) (zst2 ls i (.long x)) st h R) : zA G d M pc ls (.long x :: st) h R := by
  intro p l e Rm s m args below meth c n0 s0 Q H locs LS C hn hH hS hL hQ
  exact lv_lstore C.1 C.2.1 hd hL.has hb rfl (fun LS' hl => K p l e Rm s m args below meth c n0 s0 Q H locs LS' C hn hH hS (zLr.st2 hl) hQ)
theorem zi_aload_n {k : Fin 4} {i : Nat} {x : Nat} (hd : decode M.2.1 pc = .ok (.aload_n k, 1)) (hi : (k : Nat) = i) (hx : ls[i]? = some (some (.ref x))) (K : zA G d M (pc + 1) ls (.ref x :: st) h R) : zA G d M pc ls (st) h R := by
  intro p l e Rm s m args below meth c n0 s0 Q H locs LS C hn hH hS hL hQ
  exact lv_aload_n C.1 C.2.1 hd hi (hL.2.2 i _ hx) (K p l e Rm s m args below meth c n0 s0 Q H locs LS C hn hH hS hL hQ)
theorem zi_aload {i : Nat} {x : Nat} (hd : decode M.2.1 pc = .ok (.aload i, 2)) (hx : ls[i]? = some (some (.ref x))) (K : zA G d M (pc + 2) ls (.ref x :: st) h R) : zA G d M pc ls (st) h R := by
  intro p l e Rm s m args below meth c n0 s0 Q H locs LS C hn hH hS hL hQ
  exact lv_aload C.1 C.2.1 hd (hL.2.2 i _ hx) (K p l e Rm s m args below meth c n0 s0 Q H locs LS C hn hH hS hL hQ)
theorem zi_astore_n {k : Fin 4} {i : Nat} {x : Nat} (hd : decode M.2.1 pc = .ok (.astore_n k, 1)) (hi : (k : Nat) = i) (hb : i < M.2.2.1) (K : zA G d M (pc + 1) (zst ls i (.ref x)) st h R) : zA G d M pc ls (.ref x :: st) h R := by
  intro p l e Rm s m args below meth c n0 s0 Q H locs LS C hn hH hS hL hQ
  exact lv_astore_n C.1 C.2.1 hd hi hL.has hb rfl (fun LS' hl => K p l e Rm s m args below meth c n0 s0 Q H locs LS' C hn hH hS (zLr.st1 hl) hQ)
theorem zi_astore {i : Nat} {x : Nat} (hd : decode M.2.1 pc = .ok (.astore i, 2)) (hb : i < M.2.2.1) (K : zA G d M (pc + 2) (zst ls i (.ref x)) st h R) : zA G d M pc ls (.ref x :: st) h R := by
  intro p l e Rm s m args below meth c n0 s0 Q H locs LS C hn hH hS hL hQ
  exact lv_astore C.1 C.2.1 hd hL.has hb rfl (fun LS' hl => K p l e Rm s m args below meth c n0 s0 Q H locs LS' C hn hH hS (zLr.st1 hl) hQ)
theorem zi_iinc {i : Nat} {n : Int} {x : Int32} (hd : decode M.2.1 pc = .ok (.iinc i n, 3)) (hx : ls[i]? = some (some (.int x))) (hb : i < M.2.2.1) (K : zA G d M (pc + 3) (zst ls i (.int (x + Int32.ofInt n))) st h R) : zA G d M pc ls st h R := by
  intro p l e Rm s m args below meth c n0 s0 Q H locs LS C hn hH hS hL hQ
  obtain ⟨k, hk⟩ := List.getElem?_of_mem (zll_mem (G := G) (ls := ls) (q := (i, .int x)) |>.mpr ⟨.int x, hx, rfl⟩)
  exact lv_iinc (v := x + Int32.ofInt n) C.1 C.2.1 hd hL.has hk rfl hb rfl (fun LS' hl => K p l e Rm s m args below meth c n0 s0 Q H locs LS' C hn hH hS (zLr.st1 hl) hQ)
theorem zi_iadd {x y : Int32} (hd : decode M.2.1 pc = .ok (.iadd, 1))  (K : zA G d M (pc + 1) ls (.int (x + y) :: st) h R) : zA G d M pc ls (.int y :: .int x :: st) h R := by
  intro p l e Rm s m args below meth c n0 s0 Q H locs LS C hn hH hS hL hQ
  exact lv_iadd C.1 C.2.1 hd (K p l e Rm s m args below meth c n0 s0 Q H locs LS C hn hH hS hL hQ)
theorem zi_isub {x y : Int32} (hd : decode M.2.1 pc = .ok (.isub, 1))  (K : zA G d M (pc + 1) ls (.int (x - y) :: st) h R) : zA G d M pc ls (.int y :: .int x :: st) h R := by
  intro p l e Rm s m args below meth c n0 s0 Q H locs LS C hn hH hS hL hQ
  exact lv_isub C.1 C.2.1 hd (K p l e Rm s m args below meth c n0 s0 Q H locs LS C hn hH hS hL hQ)
theorem zi_imul {x y : Int32} (hd : decode M.2.1 pc = .ok (.imul, 1))  (K : zA G d M (pc + 1) ls (.int (x * y) :: st) h R) : zA G d M pc ls (.int y :: .int x :: st) h R := by
  intro p l e Rm s m args below meth c n0 s0 Q H locs LS C hn hH hS hL hQ
  exact lv_imul C.1 C.2.1 hd (K p l e Rm s m args below meth c n0 s0 Q H locs LS C hn hH hS hL hQ)
theorem zi_iand {x y : Int32} (hd : decode M.2.1 pc = .ok (.iand, 1))  (K : zA G d M (pc + 1) ls (.int (x &&& y) :: st) h R) : zA G d M pc ls (.int y :: .int x :: st) h R := by
  intro p l e Rm s m args below meth c n0 s0 Q H locs LS C hn hH hS hL hQ
  exact lv_iand C.1 C.2.1 hd (K p l e Rm s m args below meth c n0 s0 Q H locs LS C hn hH hS hL hQ)
theorem zi_ior {x y : Int32} (hd : decode M.2.1 pc = .ok (.ior, 1))  (K : zA G d M (pc + 1) ls (.int (x ||| y) :: st) h R) : zA G d M pc ls (.int y :: .int x :: st) h R := by
  intro p l e Rm s m args below meth c n0 s0 Q H locs LS C hn hH hS hL hQ
  exact lv_ior C.1 C.2.1 hd (K p l e Rm s m args below meth c n0 s0 Q H locs LS C hn hH hS hL hQ)
theorem zi_ixor {x y : Int32} (hd : decode M.2.1 pc = .ok (.ixor, 1))  (K : zA G d M (pc + 1) ls (.int (x ^^^ y) :: st) h R) : zA G d M pc ls (.int y :: .int x :: st) h R := by
  intro p l e Rm s m args below meth c n0 s0 Q H locs LS C hn hH hS hL hQ
  exact lv_ixor C.1 C.2.1 hd (K p l e Rm s m args below meth c n0 s0 Q H locs LS C hn hH hS hL hQ)
theorem zi_ishl {x y : Int32} (hd : decode M.2.1 pc = .ok (.ishl, 1))  (K : zA G d M (pc + 1) ls (.int (x <<< (y &&& 31)) :: st) h R) : zA G d M pc ls (.int y :: .int x :: st) h R := by
  intro p l e Rm s m args below meth c n0 s0 Q H locs LS C hn hH hS hL hQ
  exact lv_ishl C.1 C.2.1 hd (K p l e Rm s m args below meth c n0 s0 Q H locs LS C hn hH hS hL hQ)
theorem zi_ishr {x y : Int32} (hd : decode M.2.1 pc = .ok (.ishr, 1))  (K : zA G d M (pc + 1) ls (.int (x >>> (y &&& 31)) :: st) h R) : zA G d M pc ls (.int y :: .int x :: st) h R := by
  intro p l e Rm s m args below meth c n0 s0 Q H locs LS C hn hH hS hL hQ
  exact lv_ishr C.1 C.2.1 hd (K p l e Rm s m args below meth c n0 s0 Q H locs LS C hn hH hS hL hQ)
theorem zi_iushr {x y : Int32} (hd : decode M.2.1 pc = .ok (.iushr, 1))  (K : zA G d M (pc + 1) ls (.int ((x.toUInt32 >>> (y.toUInt32 &&& Int32.toUInt32 31)).toInt32) :: st) h R) : zA G d M pc ls (.int y :: .int x :: st) h R := by
  intro p l e Rm s m args below meth c n0 s0 Q H locs LS C hn hH hS hL hQ
  exact lv_iushr C.1 C.2.1 hd rfl (K p l e Rm s m args below meth c n0 s0 Q H locs LS C hn hH hS hL hQ)
theorem zi_ineg {x : Int32} (hd : decode M.2.1 pc = .ok (.ineg, 1))  (K : zA G d M (pc + 1) ls (.int (-x) :: st) h R) : zA G d M pc ls (.int x :: st) h R := by
  intro p l e Rm s m args below meth c n0 s0 Q H locs LS C hn hH hS hL hQ
  exact lv_ineg C.1 C.2.1 hd (K p l e Rm s m args below meth c n0 s0 Q H locs LS C hn hH hS hL hQ)
theorem zi_idiv {x y : Int32} (hd : decode M.2.1 pc = .ok (.idiv, 1)) (hy : ¬ y = 0) (K : zA G d M (pc + 1) ls (.int (x / y) :: st) h R) : zA G d M pc ls (.int y :: .int x :: st) h R := by
  intro p l e Rm s m args below meth c n0 s0 Q H locs LS C hn hH hS hL hQ
  exact lv_idiv C.1 C.2.1 hd hy (K p l e Rm s m args below meth c n0 s0 Q H locs LS C hn hH hS hL hQ)
theorem zi_irem {x y : Int32} (hd : decode M.2.1 pc = .ok (.irem, 1)) (hy : ¬ y = 0) (K : zA G d M (pc + 1) ls (.int (x - x / y * y) :: st) h R) : zA G d M pc ls (.int y :: .int x :: st) h R := by
  intro p l e Rm s m args below meth c n0 s0 Q H locs LS C hn hH hS hL hQ
  exact lv_irem C.1 C.2.1 hd hy (K p l e Rm s m args below meth c n0 s0 Q H locs LS C hn hH hS hL hQ)
theorem zi_ladd {x y : Int64} (hd : decode M.2.1 pc = .ok (.ladd, 1))  (K : zA G d M (pc + 1) ls (.long (x + y) :: st) h R) : zA G d M pc ls (.long y :: .long x :: st) h R := by
  intro p l e Rm s m args below meth c n0 s0 Q H locs LS C hn hH hS hL hQ
  exact lv_ladd C.1 C.2.1 hd (K p l e Rm s m args below meth c n0 s0 Q H locs LS C hn hH hS hL hQ)
theorem zi_lsub {x y : Int64} (hd : decode M.2.1 pc = .ok (.lsub, 1))  (K : zA G d M (pc + 1) ls (.long (x - y) :: st) h R) : zA G d M pc ls (.long y :: .long x :: st) h R := by
  intro p l e Rm s m args below meth c n0 s0 Q H locs LS C hn hH hS hL hQ
  exact lv_lsub C.1 C.2.1 hd (K p l e Rm s m args below meth c n0 s0 Q H locs LS C hn hH hS hL hQ)
theorem zi_lmul {x y : Int64} (hd : decode M.2.1 pc = .ok (.lmul, 1))  (K : zA G d M (pc + 1) ls (.long (x * y) :: st) h R) : zA G d M pc ls (.long y :: .long x :: st) h R := by
  intro p l e Rm s m args below meth c n0 s0 Q H locs LS C hn hH hS hL hQ
  exact lv_lmul C.1 C.2.1 hd (K p l e Rm s m args below meth c n0 s0 Q H locs LS C hn hH hS hL hQ)
theorem zi_land {x y : Int64} (hd : decode M.2.1 pc = .ok (.land, 1))  (K : zA G d M (pc + 1) ls (.long (x &&& y) :: st) h R) : zA G d M pc ls (.long y :: .long x :: st) h R := by
  intro p l e Rm s m args below meth c n0 s0 Q H locs LS C hn hH hS hL hQ
  exact lv_land C.1 C.2.1 hd (K p l e Rm s m args below meth c n0 s0 Q H locs LS C hn hH hS hL hQ)
theorem zi_lor {x y : Int64} (hd : decode M.2.1 pc = .ok (.lor, 1))  (K : zA G d M (pc + 1) ls (.long (x ||| y) :: st) h R) : zA G d M pc ls (.long y :: .long x :: st) h R := by
  intro p l e Rm s m args below meth c n0 s0 Q H locs LS C hn hH hS hL hQ
  exact lv_lor C.1 C.2.1 hd (K p l e Rm s m args below meth c n0 s0 Q H locs LS C hn hH hS hL hQ)
theorem zi_ldiv {x y : Int64} (hd : decode M.2.1 pc = .ok (.ldiv, 1)) (hy : ¬ y = 0) (K : zA G d M (pc + 1) ls (.long (x / y) :: st) h R) : zA G d M pc ls (.long y :: .long x :: st) h R := by
  intro p l e Rm s m args below meth c n0 s0 Q H locs LS C hn hH hS hL hQ
  exact lv_ldiv C.1 C.2.1 hd hy (K p l e Rm s m args below meth c n0 s0 Q H locs LS C hn hH hS hL hQ)
theorem zi_lrem {x y : Int64} (hd : decode M.2.1 pc = .ok (.lrem, 1)) (hy : ¬ y = 0) (K : zA G d M (pc + 1) ls (.long (x - x / y * y) :: st) h R) : zA G d M pc ls (.long y :: .long x :: st) h R := by
  intro p l e Rm s m args below meth c n0 s0 Q H locs LS C hn hH hS hL hQ
  exact lv_lrem C.1 C.2.1 hd hy (K p l e Rm s m args below meth c n0 s0 Q H locs LS C hn hH hS hL hQ)
theorem zi_lshl {x : Int64} {y : Int32} (hd : decode M.2.1 pc = .ok (.lshl, 1))  (K : zA G d M (pc + 1) ls (.long (x <<< (y.toInt64 &&& 63)) :: st) h R) : zA G d M pc ls (.int y :: .long x :: st) h R := by
  intro p l e Rm s m args below meth c n0 s0 Q H locs LS C hn hH hS hL hQ
  exact lv_lshl C.1 C.2.1 hd rfl (K p l e Rm s m args below meth c n0 s0 Q H locs LS C hn hH hS hL hQ)
theorem zi_lshr {x : Int64} {y : Int32} (hd : decode M.2.1 pc = .ok (.lshr, 1))  (K : zA G d M (pc + 1) ls (.long (x >>> (y.toInt64 &&& 63)) :: st) h R) : zA G d M pc ls (.int y :: .long x :: st) h R := by
  intro p l e Rm s m args below meth c n0 s0 Q H locs LS C hn hH hS hL hQ
  exact lv_lshr C.1 C.2.1 hd rfl (K p l e Rm s m args below meth c n0 s0 Q H locs LS C hn hH hS hL hQ)
theorem zi_lushr {x : Int64} {y : Int32} (hd : decode M.2.1 pc = .ok (.lushr, 1))  (K : zA G d M (pc + 1) ls (.long ((x.toUInt64 >>> (y.toInt64.toUInt64 &&& Int64.toUInt64 63)).toInt64) :: st) h R) : zA G d M pc ls (.int y :: .long x :: st) h R := by
  intro p l e Rm s m args below meth c n0 s0 Q H locs LS C hn hH hS hL hQ
  exact lv_lushr C.1 C.2.1 hd rfl (K p l e Rm s m args below meth c n0 s0 Q H locs LS C hn hH hS hL hQ)
theorem zi_i2l {x : Int32} (hd : decode M.2.1 pc = .ok (.i2l, 1))  (K : zA G d M (pc + 1) ls (.long x.toInt64 :: st) h R) : zA G d M pc ls (.int x :: st) h R := by
  intro p l e Rm s m args below meth c n0 s0 Q H locs LS C hn hH hS hL hQ
  exact lv_i2l C.1 C.2.1 hd rfl (K p l e Rm s m args below meth c n0 s0 Q H locs LS C hn hH hS hL hQ)
theorem zi_l2i {x : Int64} (hd : decode M.2.1 pc = .ok (.l2i, 1))  (K : zA G d M (pc + 1) ls (.int x.toInt32 :: st) h R) : zA G d M pc ls (.long x :: st) h R := by
  intro p l e Rm s m args below meth c n0 s0 Q H locs LS C hn hH hS hL hQ
  exact lv_l2i C.1 C.2.1 hd rfl (K p l e Rm s m args below meth c n0 s0 Q H locs LS C hn hH hS hL hQ)
theorem zi_i2c {x : Int32} (hd : decode M.2.1 pc = .ok (.i2c, 1))  (K : zA G d M (pc + 1) ls (.int (x.toUInt32 % 65536).toInt32 :: st) h R) : zA G d M pc ls (.int x :: st) h R := by
  intro p l e Rm s m args below meth c n0 s0 Q H locs LS C hn hH hS hL hQ
  exact lv_i2c C.1 C.2.1 hd rfl (K p l e Rm s m args below meth c n0 s0 Q H locs LS C hn hH hS hL hQ)
theorem zi_lcmp {x y : Int64} (hd : decode M.2.1 pc = .ok (.lcmp, 1))  (K : zA G d M (pc + 1) ls (.int (lg_cmp x y) :: st) h R) : zA G d M pc ls (.long y :: .long x :: st) h R := by
  intro p l e Rm s m args below meth c n0 s0 Q H locs LS C hn hH hS hL hQ
  exact W.lcmp C.1 C.2.1 hd (K p l e Rm s m args below meth c n0 s0 Q H locs LS C hn hH hS hL hQ)
theorem zi_dup {v : Value} (hd : decode M.2.1 pc = .ok (.dup, 1)) (hv : v.category = 1) (K : zA G d M (pc + 1) ls (v :: v :: st) h R) : zA G d M pc ls (v :: st) h R := by
  intro p l e Rm s m args below meth c n0 s0 Q H locs LS C hn hH hS hL hQ
  exact lv_dup C.1 C.2.1 hd ((ztv_cat G v).trans hv) (K p l e Rm s m args below meth c n0 s0 Q H locs LS C hn hH hS hL hQ)
theorem zi_pop {v : Value} (hd : decode M.2.1 pc = .ok (.pop, 1)) (hv : v.category = 1) (K : zA G d M (pc + 1) ls (st) h R) : zA G d M pc ls (v :: st) h R := by
  intro p l e Rm s m args below meth c n0 s0 Q H locs LS C hn hH hS hL hQ
  exact lv_pop C.1 C.2.1 hd ((ztv_cat G v).trans hv) (K p l e Rm s m args below meth c n0 s0 Q H locs LS C hn hH hS hL hQ)
theorem zi_dup2 {v w : Value} (hd : decode M.2.1 pc = .ok (.dup2, 1)) (hv : v.category = 1) (hw : w.category = 1) (K : zA G d M (pc + 1) ls (v :: w :: v :: w :: st) h R) : zA G d M pc ls (v :: w :: st) h R := by
  intro p l e Rm s m args below meth c n0 s0 Q H locs LS C hn hH hS hL hQ
  exact lv_dup2_11 C.1 C.2.1 hd ((ztv_cat G v).trans hv) ((ztv_cat G w).trans hw) (K p l e Rm s m args below meth c n0 s0 Q H locs LS C hn hH hS hL hQ)
theorem zi_if_eq {x : Int32} {off : Int} {tgt : Nat} (hd : decode M.2.1 pc = .ok (.ifCond .eq off, 3)) (ht : (pc : Int) + off = (tgt : Int)) (KT : x = 0 → zA G d M tgt ls st h R) (KF : ¬ x = 0 → zA G d M (pc + 3) ls st h R) : zA G d M pc ls (.int x :: st) h R := by
  intro p l e Rm s m args below meth c n0 s0 Q H locs LS C hn hH hS hL hQ
  exact lv_if_eq C.1 C.2.1 hd ht (fun hc => KT hc p l e Rm s m args below meth c n0 s0 Q H locs LS C hn hH hS hL hQ) (fun hc => KF hc p l e Rm s m args below meth c n0 s0 Q H locs LS C hn hH hS hL hQ)
theorem zi_icmp_eq {x y : Int32} {off : Int} {tgt : Nat} (hd : decode M.2.1 pc = .ok (.if_icmp .eq off, 3)) (ht : (pc : Int) + off = (tgt : Int)) (KT : x = y → zA G d M tgt ls st h R) (KF : ¬ x = y → zA G d M (pc + 3) ls st h R) : zA G d M pc ls (.int y :: .int x :: st) h R := by
  intro p l e Rm s m args below meth c n0 s0 Q H locs LS C hn hH hS hL hQ
  exact lv_icmp_eq C.1 C.2.1 hd ht (fun hc => KT hc p l e Rm s m args below meth c n0 s0 Q H locs LS C hn hH hS hL hQ) (fun hc => KF hc p l e Rm s m args below meth c n0 s0 Q H locs LS C hn hH hS hL hQ)
theorem zi_if_ne {x : Int32} {off : Int} {tgt : Nat} (hd : decode M.2.1 pc = .ok (.ifCond .ne off, 3)) (ht : (pc : Int) + off = (tgt : Int)) (KT : ¬ x = 0 → zA G d M tgt ls st h R) (KF : x = 0 → zA G d M (pc + 3) ls st h R) : zA G d M pc ls (.int x :: st) h R := by
  intro p l e Rm s m args below meth c n0 s0 Q H locs LS C hn hH hS hL hQ
  exact lv_if_ne C.1 C.2.1 hd ht (fun hc => KT hc p l e Rm s m args below meth c n0 s0 Q H locs LS C hn hH hS hL hQ) (fun hc => KF hc p l e Rm s m args below meth c n0 s0 Q H locs LS C hn hH hS hL hQ)
theorem zi_icmp_ne {x y : Int32} {off : Int} {tgt : Nat} (hd : decode M.2.1 pc = .ok (.if_icmp .ne off, 3)) (ht : (pc : Int) + off = (tgt : Int)) (KT : ¬ x = y → zA G d M tgt ls st h R) (KF : x = y → zA G d M (pc + 3) ls st h R) : zA G d M pc ls (.int y :: .int x :: st) h R := by
  intro p l e Rm s m args below meth c n0 s0 Q H locs LS C hn hH hS hL hQ
  exact lv_icmp_ne C.1 C.2.1 hd ht (fun hc => KT hc p l e Rm s m args below meth c n0 s0 Q H locs LS C hn hH hS hL hQ) (fun hc => KF hc p l e Rm s m args below meth c n0 s0 Q H locs LS C hn hH hS hL hQ)
theorem zi_if_lt {x : Int32} {off : Int} {tgt : Nat} (hd : decode M.2.1 pc = .ok (.ifCond .lt off, 3)) (ht : (pc : Int) + off = (tgt : Int)) (KT : x < 0 → zA G d M tgt ls st h R) (KF : ¬ x < 0 → zA G d M (pc + 3) ls st h R) : zA G d M pc ls (.int x :: st) h R := by
  intro p l e Rm s m args below meth c n0 s0 Q H locs LS C hn hH hS hL hQ
  exact lv_if_lt C.1 C.2.1 hd ht (fun hc => KT hc p l e Rm s m args below meth c n0 s0 Q H locs LS C hn hH hS hL hQ) (fun hc => KF hc p l e Rm s m args below meth c n0 s0 Q H locs LS C hn hH hS hL hQ)
theorem zi_icmp_lt {x y : Int32} {off : Int} {tgt : Nat} (hd : decode M.2.1 pc = .ok (.if_icmp .lt off, 3)) (ht : (pc : Int) + off = (tgt : Int)) (KT : x < y → zA G d M tgt ls st h R) (KF : ¬ x < y → zA G d M (pc + 3) ls st h R) : zA G d M pc ls (.int y :: .int x :: st) h R := by
  intro p l e Rm s m args below meth c n0 s0 Q H locs LS C hn hH hS hL hQ
  exact lv_icmp_lt C.1 C.2.1 hd ht (fun hc => KT hc p l e Rm s m args below meth c n0 s0 Q H locs LS C hn hH hS hL hQ) (fun hc => KF hc p l e Rm s m args below meth c n0 s0 Q H locs LS C hn hH hS hL hQ)
theorem zi_if_ge {x : Int32} {off : Int} {tgt : Nat} (hd : decode M.2.1 pc = .ok (.ifCond .ge off, 3)) (ht : (pc : Int) + off = (tgt : Int)) (KT : 0 ≤ x → zA G d M tgt ls st h R) (KF : ¬ 0 ≤ x → zA G d M (pc + 3) ls st h R) : zA G d M pc ls (.int x :: st) h R := by
  intro p l e Rm s m args below meth c n0 s0 Q H locs LS C hn hH hS hL hQ
  exact lv_if_ge C.1 C.2.1 hd ht (fun hc => KT hc p l e Rm s m args below meth c n0 s0 Q H locs LS C hn hH hS hL hQ) (fun hc => KF hc p l e Rm s m args below meth c n0 s0 Q H locs LS C hn hH hS hL hQ)
theorem zi_icmp_ge {x y : Int32} {off : Int} {tgt : Nat} (hd : decode M.2.1 pc = .ok (.if_icmp .ge off, 3)) (ht : (pc : Int) + off = (tgt : Int)) (KT : y ≤ x → zA G d M tgt ls st h R) (KF : ¬ y ≤ x → zA G d M (pc + 3) ls st h R) : zA G d M pc ls (.int y :: .int x :: st) h R := by
  intro p l e Rm s m args below meth c n0 s0 Q H locs LS C hn hH hS hL hQ
  exact lv_icmp_ge C.1 C.2.1 hd ht (fun hc => KT hc p l e Rm s m args below meth c n0 s0 Q H locs LS C hn hH hS hL hQ) (fun hc => KF hc p l e Rm s m args below meth c n0 s0 Q H locs LS C hn hH hS hL hQ)
theorem zi_if_gt {x : Int32} {off : Int} {tgt : Nat} (hd : decode M.2.1 pc = .ok (.ifCond .gt off, 3)) (ht : (pc : Int) + off = (tgt : Int)) (KT : 0 < x → zA G d M tgt ls st h R) (KF : ¬ 0 < x → zA G d M (pc + 3) ls st h R) : zA G d M pc ls (.int x :: st) h R := by
  intro p l e Rm s m args below meth c n0 s0 Q H locs LS C hn hH hS hL hQ
  exact lv_if_gt C.1 C.2.1 hd ht (fun hc => KT hc p l e Rm s m args below meth c n0 s0 Q H locs LS C hn hH hS hL hQ) (fun hc => KF hc p l e Rm s m args below meth c n0 s0 Q H locs LS C hn hH hS hL hQ)
theorem zi_icmp_gt {x y : Int32} {off : Int} {tgt : Nat} (hd : decode M.2.1 pc = .ok (.if_icmp .gt off, 3)) (ht : (pc : Int) + off = (tgt : Int)) (KT : y < x → zA G d M tgt ls st h R) (KF : ¬ y < x → zA G d M (pc + 3) ls st h R) : zA G d M pc ls (.int y :: .int x :: st) h R := by
  intro p l e Rm s m args below meth c n0 s0 Q H locs LS C hn hH hS hL hQ
  exact lv_icmp_gt C.1 C.2.1 hd ht (fun hc => KT hc p l e Rm s m args below meth c n0 s0 Q H locs LS C hn hH hS hL hQ) (fun hc => KF hc p l e Rm s m args below meth c n0 s0 Q H locs LS C hn hH hS hL hQ)
theorem zi_if_le {x : Int32} {off : Int} {tgt : Nat} (hd : decode M.2.1 pc = .ok (.ifCond .le off, 3)) (ht : (pc : Int) + off = (tgt : Int)) (KT : x ≤ 0 → zA G d M tgt ls st h R) (KF : ¬ x ≤ 0 → zA G d M (pc + 3) ls st h R) : zA G d M pc ls (.int x :: st) h R := by
  intro p l e Rm s m args below meth c n0 s0 Q H locs LS C hn hH hS hL hQ
  exact lv_if_le C.1 C.2.1 hd ht (fun hc => KT hc p l e Rm s m args below meth c n0 s0 Q H locs LS C hn hH hS hL hQ) (fun hc => KF hc p l e Rm s m args below meth c n0 s0 Q H locs LS C hn hH hS hL hQ)
theorem zi_icmp_le {x y : Int32} {off : Int} {tgt : Nat} (hd : decode M.2.1 pc = .ok (.if_icmp .le off, 3)) (ht : (pc : Int) + off = (tgt : Int)) (KT : x ≤ y → zA G d M tgt ls st h R) (KF : ¬ x ≤ y → zA G d M (pc + 3) ls st h R) : zA G d M pc ls (.int y :: .int x :: st) h R := by
  intro p l e Rm s m args below meth c n0 s0 Q H locs LS C hn hH hS hL hQ
  exact lv_icmp_le C.1 C.2.1 hd ht (fun hc => KT hc p l e Rm s m args below meth c n0 s0 Q H locs LS C hn hH hS hL hQ) (fun hc => KF hc p l e Rm s m args below meth c n0 s0 Q H locs LS C hn hH hS hL hQ)
theorem zi_goto {off : Int} {tgt : Nat} (hd : decode M.2.1 pc = .ok (.goto off, 3)) (ht : (pc : Int) + off = (tgt : Int)) (K : zA G d M tgt ls st h R) : zA G d M pc ls st h R := by
  intro p l e Rm s m args below meth c n0 s0 Q H locs LS C hn hH hS hL hQ
  exact lv_goto C.1 C.2.1 hd ht (K p l e Rm s m args below meth c n0 s0 Q H locs LS C hn hH hS hL hQ)
theorem zi_tableOut {dflt lo hi : Int} {offs : Array Int} {len : Nat} {x : Int32} {tgt : Nat} (hd : decode M.2.1 pc = .ok (.tableswitch dflt lo hi offs, len)) (hx : x.toInt < lo ∨ hi < x.toInt) (ht : (pc : Int) + dflt = (tgt : Int)) (K : zA G d M tgt ls st h R) : zA G d M pc ls (.int x :: st) h R := by
  intro p l e Rm s m args below meth c n0 s0 Q H locs LS C hn hH hS hL hQ
  exact lv_tableOut C.1 C.2.1 hd hx ht (K p l e Rm s m args below meth c n0 s0 Q H locs LS C hn hH hS hL hQ)
theorem zi_tableIn {dflt lo hi : Int} {offs : Array Int} {len : Nat} {x : Int32} {off : Int} {tgt : Nat} (hd : decode M.2.1 pc = .ok (.tableswitch dflt lo hi offs, len)) (h1 : ¬ x.toInt < lo) (h2 : ¬ hi < x.toInt) (ho : offs[(x.toInt - lo).toNat]? = some off) (ht : (pc : Int) + off = (tgt : Int)) (K : zA G d M tgt ls st h R) : zA G d M pc ls (.int x :: st) h R := by
  intro p l e Rm s m args below meth c n0 s0 Q H locs LS C hn hH hS hL hQ
  exact lv_tableIn C.1 C.2.1 hd h1 h2 ho ht (K p l e Rm s m args below meth c n0 s0 Q H locs LS C hn hH hS hL hQ)
theorem zi_lookup {dflt : Int} {ps : Array (Int × Int)} {len : Nat} {x : Int32} {off : Int} {tgt : Nat} (hd : decode M.2.1 pc = .ok (.lookupswitch dflt ps, len)) (hp : (ps.toList.zip (ps.toList.drop 1)).all (fun (a, next) => a.1 < next.1) = true) (ho : Op.lookupswitch.offset ps.toList dflt x.toInt = off) (ht : (pc : Int) + off = (tgt : Int)) (K : zA G d M tgt ls st h R) : zA G d M pc ls (.int x :: st) h R := by
  intro p l e Rm s m args below meth c n0 s0 Q H locs LS C hn hH hS hL hQ
  exact lv_lookup C.1 C.2.1 hd hp ho ht (K p l e Rm s m args below meth c n0 s0 Q H locs LS C hn hH hS hL hQ)
theorem zi_ireturn {x : Int32} {ty : FieldType} (hd : decode M.2.1 pc = .ok (.ireturn, 1)) (hr : M.2.2.2 = some ty) (hn0 : narrow ty (.int x) = .int x) : zA G d M pc ls [.int x] h (some (.int x), h) := by
  intro p l e Rm s m args below meth c n0 s0 Q H locs LS C hn hH hS hL hQ
  exact hQ H locs pc LS .ireturn hH hS hd (Or.inl ⟨rfl, x, ty, rfl, hr, hn0⟩)
theorem zi_lreturn {x : Int64} (hd : decode M.2.1 pc = .ok (.lreturn, 1)) (hr : M.2.2.2 = some .long) : zA G d M pc ls [.long x] h (some (.long x), h) := by
  intro p l e Rm s m args below meth c n0 s0 Q H locs LS C hn hH hS hL hQ
  exact hQ H locs pc LS .lreturn hH hS hd (Or.inr (Or.inl ⟨rfl, x, rfl, hr⟩))
theorem zi_areturn {i : Nat} {n : String} (hd : decode M.2.1 pc = .ok (.areturn, 1)) (hr : M.2.2.2 = some (.object n)) : zA G d M pc ls [.ref i] h (some (.ref i), h) := by
  intro p l e Rm s m args below meth c n0 s0 Q H locs LS C hn hH hS hL hQ
  exact hQ H locs pc LS .areturn hH hS hd (Or.inr (Or.inr (Or.inl ⟨rfl, i, n, rfl, hr⟩)))
theorem zi_return (hd : decode M.2.1 pc = .ok (.return_, 1)) (hr : M.2.2.2 = none) : zA G d M pc ls [] h (none, h) := by
  intro p l e Rm s m args below meth c n0 s0 Q H locs LS C hn hH hS hL hQ
  exact hQ H locs pc LS .return_ hH hS hd (Or.inr (Or.inr (Or.inr ⟨rfl, rfl, hr⟩)))
end ZRULES
end
section
/-! RULES of the heap: fields, arrays, the script, new cells -/
/-- the types that fields have here -/
def zkt : FieldType → Bool
  | .int => true
  | .long => true
  | .object _ => true
  | .array _ => true
  | _ => false
/-- a class of the world -/
def zCok (c : Nat) (C : String) (T : u_T) (N : Nat) : Prop := vwCl[c]? = some (C, T, N) ∧ (∀ w ∈ u_ws C T N, w ∈ zU) ∧ (∀ k, k < N → parseFieldDescriptor (T k).2.2.1 = some (zty c k)) ∧ (∀ a, a < N → ∀ b, b < N → a ≠ b → (T a).2.1 ≠ (T b).2.1) ∧ c < 100 ∧ ∀ k, k < N → zkt (zty c k) = true
theorem zc0 : zCok 0 RX0 TX0 0 := ⟨rfl, inX0, tyX0_ok, nmX0, by decide, by decide⟩
theorem zc1 : zCok 1 RX1 TX1 2 := ⟨rfl, inX1, tyX1_ok, nmX1, by decide, by decide⟩
theorem zc2 : zCok 2 RX2 TX2 0 := ⟨rfl, inX2, tyX2_ok, nmX2, by decide, by decide⟩
theorem zc3 : zCok 3 RX3 TX3 1 := ⟨rfl, inX3, tyX3_ok, nmX3, by decide, by decide⟩
theorem zc4 : zCok 4 RX4 TX4 13 := ⟨rfl, inX4, tyX4_ok, nmX4, by decide, by decide⟩
theorem zc5 : zCok 5 RX5 TX5 5 := ⟨rfl, inX5, tyX5_ok, nmX5, by decide, by decide⟩
theorem zc6 : zCok 6 RX6 TX6 0 := ⟨rfl, inX6, tyX6_ok, nmX6, by decide, by decide⟩
theorem zc7 : zCok 7 RX7 TX7 5 := ⟨rfl, inX7, tyX7_ok, nmX7, by decide, by decide⟩
theorem zc8 : zCok 8 RX8 TX8 0 := ⟨rfl, inX8, tyX8_ok, nmX8, by decide, by decide⟩
theorem zc9 : zCok 9 RX9 TX9 0 := ⟨rfl, inX9, tyX9_ok, nmX9, by decide, by decide⟩
theorem zc10 : zCok 10 RX10 TX10 4 := ⟨rfl, inX10, tyX10_ok, nmX10, by decide, by decide⟩
theorem zc11 : zCok 11 RX11 TX11 15 := ⟨rfl, inX11, tyX11_ok, nmX11, by decide, by decide⟩
theorem zc12 : zCok 12 RX12 TX12 24 := ⟨rfl, inX12, tyX12_ok, nmX12, by decide, by decide⟩
/-- a field's value -/
def zfA (h : zH) (c i k : Nat) : Value := match zfk c k with
  | 0 => .int (h.2.1 i k)
  | 1 => .long (h.2.2.1 i k)
  | _ => h.2.2.2 i k
theorem zfv_eq (G : zG) (h : zH) (c i k : Nat) : zfv G h c i k = ztv G (zfA h c i k) := by
  unfold zfv zfA
  generalize zfk c k = q
  rcases q with _ | _ | q <;> rfl
section ZHEAP
variable {G : zG} {d : Nat} {M : zM} {pc : Nat} {ls : List (Option Value)} {st : List Value} {h : zH} {R : zR}
theorem zi_get {ix i c k N : Nat} {C : String} {T : u_T} {v : Value} (hd : decode M.2.1 pc = .ok (.getfield ix, 3)) (hc : zCok c C T N) (hs : h.1.2.2 i = (c, N)) (hi : i < h.1.1) (hk : k < N) (hl : Cond.fieldLink M.1.cls ix (T k).1 (T k).2.1 (T k).2.2.1 ∈ zU) (hv : zfA h c i k = v) (K : zA G d M (pc + 3) ls (v :: st) h R) : zA G d M pc ls (.ref i :: st) h R := by
  intro p l e Rm s m args below meth c0 n0 s0 Q H locs LS C0 hn hH hS hL hQ
  have hi2 : i < 1000 := Nat.lt_of_lt_of_le hi hH.2.2
  have hw := zw_get (G := G) hi
  rw [zce_o hs hc.2.2.2.2.1] at hw
  show W p l e Rm s m args below meth c0 H locs _ _ Q (F0 m pc LS (ztv G (.ref i) :: st.map (ztv G)))
  rw [ztv_lt hi2]
  refine va_get (D := G.2.2.1) (ci := c) (v := ztv G v) C0.1 C0.2.1 C0.2.2.2.2.1 hc.2.1 C0.2.2.2.1 C0.2.2.2.2.2.1.1 hH.2.1 i hw hc.1 k hk (C0.2.2.2.2.1 _ hl) (fun _ q => q) ?_ hd (K p l e Rm s m args below meth c0 n0 s0 Q H locs LS C0 hn hH hS hL hQ)
  rw [List.getElem?_map, List.getElem?_range hk, ← hv, ← zfv_eq]
  rfl
/-- what a written field makes of a cell -/
theorem zput_w {G : zG} {h h' : zH} {i c k N : Nat} (hc : c < 100) (hs : h.1.2.2 i = (c, N)) (hS : h'.1 = h.1) (hI : ∀ j, j ≠ i → h'.2.1 j = h.2.1 j ∧ h'.2.2.1 j = h.2.2.1 j ∧ h'.2.2.2 j = h.2.2.2 j) (ho : ∀ j, j ≠ k → zfv G h' c i j = zfv G h c i j) :
    (zw G h).set i (G.1 + i, .inr (c, ((List.range N).map (zfv G h c i)).set k (zfv G h' c i k))) = zw G h' := by
  refine zw_set (by rw [hS]) ?_ (fun j hj => zce_congr (by rw [hS]) (hI j hj).1 (hI j hj).2.1 (hI j hj).2.2)
  rw [zce_o (by rw [hS]; exact hs) hc]
  congr 2
  apply List.ext_getElem?
  intro j
  by_cases hj : j < N
  · by_cases hjk : j = k
    · subst hjk
      rw [List.getElem?_set_self (by simpa using hj), List.getElem?_map, List.getElem?_range hj]
      rfl
    · rw [List.getElem?_set_ne (fun q => hjk q.symm), List.getElem?_map, List.getElem?_map, List.getElem?_range hj]
      simp [ho j hjk]
  · rw [List.getElem?_eq_none (by simpa using hj), List.getElem?_eq_none (by simpa using hj)]
/-- the three kinds of written fields, in one: v the value, h' the state behind it; a final one in a constructor of its class -/
theorem zi_put {ix i c k N : Nat} {C : String} {T : u_T} {v : Value} {h' : zH} (hd : decode M.2.1 pc = .ok (.putfield ix, 3)) (hc : zCok c C T N) (hs : h.1.2.2 i = (c, N)) (hi : i < h.1.1) (hk : k < N) (hl : Cond.fieldLink M.1.cls ix (T k).1 (T k).2.1 (T k).2.2.1 ∈ zU) (hf : (T k).2.2.2 = false ∨ ((T k).2.2.2 = true ∧ M.1.name = "<init>" ∧ (T k).1 = M.1.cls))
    (hS' : h'.1 = h.1) (hI : ∀ j, j ≠ i → h'.2.1 j = h.2.1 j ∧ h'.2.2.1 j = h.2.2.1 j ∧ h'.2.2.2 j = h.2.2.2 j) (ho : ∀ j, j ≠ k → zfA h' c i j = zfA h c i j) (hv : zfA h' c i k = v) (hn0 : ∀ G : zG, narrow (zty c k) (ztv G v) = ztv G v ∧ fits (zty c k) (ztv G v) = true) (K : zA G d M (pc + 3) ls st h' R) : zA G d M pc ls (v :: .ref i :: st) h R := by
  intro p l e Rm s m args below meth c0 n0 s0 Q H locs LS C0 hn hH hS hL hQ
  have hi2 : i < 1000 := Nat.lt_of_lt_of_le hi hH.2.2
  have hw := zw_get (G := G) hi
  rw [zce_o hs hc.2.2.2.2.1] at hw
  have he := zput_w (G := G) (h := h) (h' := h') (i := i) (c := c) (k := k) (N := N) hc.2.2.2.2.1 hs hS' hI (fun j hj => by rw [zfv_eq, zfv_eq, ho j hj])
  rw [zfv_eq G h' c i k, hv] at he
  show W p l e Rm s m args below meth c0 H locs _ _ Q (F0 m pc LS (ztv G v :: ztv G (.ref i) :: st.map (ztv G)))
  rw [ztv_lt hi2]
  have KK : ∀ (H1 : Heap) (locs1 : List Loc), H1.size = H.size → va_P G.2.2.1 vwCl ((zw G h).set i (G.1 + i, .inr (c, ((List.range N).map (zfv G h c i)).set k (ztv G v)))) H1 → va_S (zO G) s.heap H1 locs1 → W p l e Rm s m args below meth c0 H1 locs1 (h.1.1 - n0) (h.1.2.1 - s0) Q (F0 m (pc + 3) LS (st.map (ztv G))) := by
    intro H1 locs1 hz hP1 hS1
    rw [he] at hP1
    have := K p l e Rm s m args below meth c0 n0 s0 Q H1 locs1 LS C0 (by rw [hS']; exact hn) ⟨by rw [hz, hS']; exact hH.1, hP1, by rw [hS']; exact hH.2.2⟩ hS1 hL hQ
    rw [hS'] at this
    exact this
  have hK := C0.2.2.2.2.2.1.1
  have hap := va_apart (own := M.1.cls) C0.2.2.2.2.1 hc.2.1 (zty c) hc.2.2.1 hc.2.2.2.1 hK hc.1
  obtain ⟨r, h1, cell, q1, q2, q3, q4⟩ := hH.2.1 i _ hw
  have hr : r = (C, T, N) := Option.some.inj (h1.symm.trans hc.1)
  subst hr
  obtain ⟨hSl, hfc, kC, hkC, hkind⟩ := hK.1 c _ hc.1
  obtain ⟨cf, kf, fi, f, hfi, hsl⟩ := hSl k hk
  have hlay := C0.2.2.2.2.1 _ (hc.2.1 _ (u_in_lay hk))
  unfold u_lay at hlay
  have hst := (u_facts hfc hkC (u_lays C0.2.2.2.2.1 hc.2.1 hk) hfi).1
  have hlen : k < ((List.range N).map (zfv G h c i)).length := by simpa using hk
  rcases hf with hfin | ⟨hfin, hinit, hdecl⟩
  · rw [if_neg (by rw [hfin]; decide)] at hlay
    have h6 := u_store hfc hkC hkind hlay hfi (hc.2.2.1 k hk) (hn0 G).1 (hn0 G).2
    refine W.putK C0.1 C0.2.1 (f := f) ⟨C0.2.2.2.1, C0.2.2.2.2.1 _ hl, ⟨_, _, _, hfi⟩, hst⟩ (by rw [q2]; exact h6) q1 q3 (by rw [hsl]; exact k2_hasslot (q4 k hk)) rfl rfl hd fun H' e1 e2 e3 => ?_
    rw [hsl] at e1 ⊢
    exact KK H' _ e2 (hH.2.1.set zD hw ⟨_, hc.1, t_OB.to (V := updV (vp_V _) k (ztv G v)) ⟨_, e1, q2, q3, t_set q4 hap hk (ztv G v)⟩ (fun j _ => vp_updV_set hlen (ztv G v) j)⟩ e3) (hS.put e2 e3 (zD.2 i _ hw))
  · rw [if_pos hfin] at hlay
    have hcf : m.cls = cf := by
      obtain ⟨_, _, c', _, _, _, -, -, hf', -, -, -, hown2, -⟩ := Cond.laysFinal_spec hlay
      have e1 : c' = cf := by have := hfi.symm.trans hf'; simp at this; exact this.1.symm
      rw [hdecl] at hown2
      rw [← e1]; exact Option.some.inj (C0.2.2.2.1.symm.trans hown2)
    have h6 := u_fits hfc hkC hkind (Or.inr hlay) hfi (hc.2.2.1 k hk) (hn0 G).1 (hn0 G).2
    refine W.putFinK C0.1 C0.2.1 C0.2.2.2.1 (C0.2.2.2.2.1 _ hl) hfi hst hcf (C0.2.2.2.2.2.2.1.trans hinit) (by rw [q2]; exact h6) q1 q3 (by rw [hsl]; exact k2_hasslot (q4 k hk)) rfl rfl hd fun H' e1 e2 e3 => ?_
    rw [hsl] at e1 ⊢
    exact KK H' _ e2 (hH.2.1.set zD hw ⟨_, hc.1, t_OB.to (V := updV (vp_V _) k (ztv G v)) ⟨_, e1, q2, q3, t_set q4 hap hk (ztv G v)⟩ (fun j _ => vp_updV_set hlen (ztv G v) j)⟩ e3) (hS.put e2 e3 (zD.2 i _ hw))
theorem zi_putI {ix i c k N : Nat} {C : String} {T : u_T} {x : Int32} (hd : decode M.2.1 pc = .ok (.putfield ix, 3)) (hc : zCok c C T N) (hs : h.1.2.2 i = (c, N)) (hi : i < h.1.1) (hk : k < N) (hl : Cond.fieldLink M.1.cls ix (T k).1 (T k).2.1 (T k).2.2.1 ∈ zU) (hf : (T k).2.2.2 = false) (ht : zty c k = .int) (K : zA G d M (pc + 3) ls st (h.1, zup h.2.1 i k x, h.2.2.1, h.2.2.2) R) : zA G d M pc ls (.int x :: .ref i :: st) h R := by
  refine zi_put (h' := (h.1, zup h.2.1 i k x, h.2.2.1, h.2.2.2)) hd hc hs hi hk hl (Or.inl hf) rfl (fun j hj => ⟨zup_ne hj, rfl, rfl⟩) (fun j hj => ?_) ?_ (fun G => ?_) K
  · simp [zfA, zup, hj]
  · simp [zfA, zfk, ht, zup]
  · rw [ht]; exact ⟨rfl, rfl⟩
theorem zi_putL {ix i c k N : Nat} {C : String} {T : u_T} {x : Int64} (hd : decode M.2.1 pc = .ok (.putfield ix, 3)) (hc : zCok c C T N) (hs : h.1.2.2 i = (c, N)) (hi : i < h.1.1) (hk : k < N) (hl : Cond.fieldLink M.1.cls ix (T k).1 (T k).2.1 (T k).2.2.1 ∈ zU) (hf : (T k).2.2.2 = false) (ht : zty c k = .long) (K : zA G d M (pc + 3) ls st (h.1, h.2.1, zupL h.2.2.1 i k x, h.2.2.2) R) : zA G d M pc ls (.long x :: .ref i :: st) h R := by
  refine zi_put (h' := (h.1, h.2.1, zupL h.2.2.1 i k x, h.2.2.2)) hd hc hs hi hk hl (Or.inl hf) rfl (fun j hj => ⟨rfl, zupL_ne hj, rfl⟩) (fun j hj => ?_) ?_ (fun G => ?_) K
  · simp [zfA, zupL, hj]
  · simp [zfA, zfk, ht, zupL]
  · rw [ht]; exact ⟨rfl, rfl⟩
/-- which types are references' -/
def zrt : FieldType → Bool
  | .object _ => true
  | .array _ => true
  | _ => false
theorem zrt_ok {ty : FieldType} (h : zrt ty = true) (a : Nat) : narrow ty (.ref a) = .ref a ∧ fits ty (.ref a) = true := by cases ty <;> simp_all [zrt, narrow, fits]
theorem zi_putF {ix i c k N j0 : Nat} {C : String} {T : u_T} (hd : decode M.2.1 pc = .ok (.putfield ix, 3)) (hc : zCok c C T N) (hs : h.1.2.2 i = (c, N)) (hi : i < h.1.1) (hk : k < N) (hl : Cond.fieldLink M.1.cls ix (T k).1 (T k).2.1 (T k).2.2.1 ∈ zU) (hf : (T k).2.2.2 = false ∨ ((T k).2.2.2 = true ∧ M.1.name = "<init>" ∧ (T k).1 = M.1.cls)) (ht : zrt (zty c k) = true) (K : zA G d M (pc + 3) ls st (h.1, h.2.1, h.2.2.1, zupF h.2.2.2 i k (.ref j0)) R) : zA G d M pc ls (.ref j0 :: .ref i :: st) h R := by
  have h2 : zfk c k = 2 := by
    unfold zfk
    cases hz : zty c k <;> simp_all [zrt]
  refine zi_put (h' := (h.1, h.2.1, h.2.2.1, zupF h.2.2.2 i k (.ref j0))) hd hc hs hi hk hl hf rfl (fun j hj => ⟨rfl, rfl, zupF_ne hj⟩) (fun j hj => ?_) ?_ (fun G => zrt_ok ht _) K
  · simp [zfA, zupF, hj]
  · simp [zfA, h2, zupF]
theorem zi_iaload {i n : Nat} {j : Int32} (hd : decode M.2.1 pc = .ok (.iaload, 1)) (hs : h.1.2.2 i = (100, n)) (hi : i < h.1.1) (hj : vp_in j n) (K : zA G d M (pc + 1) ls (.int (h.2.1 i j.toNatClampNeg) :: st) h R) : zA G d M pc ls (.int j :: .ref i :: st) h R := by
  intro p l e Rm s m args below meth c0 n0 s0 Q H locs LS C0 hn hH hS hL hQ
  have hi2 : i < 1000 := Nat.lt_of_lt_of_le hi hH.2.2
  have hw := zw_get (G := G) hi
  rw [zce_i hs] at hw
  show W p l e Rm s m args below meth c0 H locs _ _ Q (F0 m pc LS (.int j :: ztv G (.ref i) :: st.map (ztv G)))
  rw [ztv_lt hi2]
  exact va_iald C0.1 C0.2.1 C0.2.2.2.2.2.1.1 hH.2.1 i 0 hw rfl hj hd (K p l e Rm s m args below meth c0 n0 s0 Q H locs LS C0 hn hH hS hL hQ)
theorem zi_zaload {i n : Nat} {j : Int32} (hd : decode M.2.1 pc = .ok (.baload, 1)) (hs : h.1.2.2 i = (101, n)) (hi : i < h.1.1) (hj : vp_in j n) (K : zA G d M (pc + 1) ls (.int (h.2.1 i j.toNatClampNeg) :: st) h R) : zA G d M pc ls (.int j :: .ref i :: st) h R := by
  intro p l e Rm s m args below meth c0 n0 s0 Q H locs LS C0 hn hH hS hL hQ
  have hi2 : i < 1000 := Nat.lt_of_lt_of_le hi hH.2.2
  have hw := zw_get (G := G) hi
  rw [zce_z hs] at hw
  show W p l e Rm s m args below meth c0 H locs _ _ Q (F0 m pc LS (.int j :: ztv G (.ref i) :: st.map (ztv G)))
  rw [ztv_lt hi2]
  exact va_zald C0.1 C0.2.1 C0.2.2.2.2.2.1.1 hH.2.1 i 1 hw rfl hj hd (K p l e Rm s m args below meth c0 n0 s0 Q H locs LS C0 hn hH hS hL hQ)
theorem zwI_set {G : zG} {h : zH} {i n k : Nat} {cA : ClassId} {f : Nat → Int32} (hk : (k = 100 ∧ cA = G.2.1.1) ∨ (k = 101 ∧ cA = G.2.1.2)) (hs : h.1.2.2 i = (k, n)) : (zw G h).set i (G.1 + i, .inl (cA, n, .inl f)) = zw G (h.1, zrow h.2.1 i f, h.2.2.1, h.2.2.2) := by
  refine zw_set (h' := (h.1, zrow h.2.1 i f, h.2.2.1, h.2.2.2)) rfl ?_ (fun j hj => zce_congr rfl (zrow_ne hj) rfl rfl)
  rcases hk with ⟨rfl, rfl⟩ | ⟨rfl, rfl⟩
  · rw [zce_i (h := (h.1, zrow h.2.1 i f, h.2.2.1, h.2.2.2)) hs]
    simp only [zrow_self]
  · rw [zce_z (h := (h.1, zrow h.2.1 i f, h.2.2.1, h.2.2.2)) hs]
    simp only [zrow_self]
theorem va_P.size_eq {D : va_G} {cl : List vw_C} {ws : va_W} {H : Heap} (h : va_P D cl ws H) : ∀ (k : Nat) (q : Nat × va_E), ws[k]? = some q → q.1 < H.size := fun k q hq => (h k q hq).lt
theorem zi_iastore {i n : Nat} {j x : Int32} (hd : decode M.2.1 pc = .ok (.iastore, 1)) (hs : h.1.2.2 i = (100, n)) (hi : i < h.1.1) (hj : vp_in j n) (K : zA G d M (pc + 1) ls st (h.1, zup h.2.1 i j.toNatClampNeg x, h.2.2.1, h.2.2.2) R) : zA G d M pc ls (.int x :: .int j :: .ref i :: st) h R := by
  intro p l e Rm s m args below meth c0 n0 s0 Q H locs LS C0 hn hH hS hL hQ
  have hi2 : i < 1000 := Nat.lt_of_lt_of_le hi hH.2.2
  have hw := zw_get (G := G) hi
  rw [zce_i hs] at hw
  show W p l e Rm s m args below meth c0 H locs _ _ Q (F0 m pc LS (.int x :: .int j :: ztv G (.ref i) :: st.map (ztv G)))
  rw [ztv_lt hi2]
  have hK := C0.2.2.2.2.2.1.1
  refine W.iast C0.1 C0.2.1 (hH.2.1 i _ hw) ((hK.2 0 _ rfl).1 n (fun j => .int (h.2.1 i j))) (fun q => by cases q) (by show ¬ (j < 0 ∨ (arrV _ _ _).slots.size ≤ _); rw [arrV_size]; exact hj) rfl rfl hd fun H1 e1 z oq => ?_
  have hP1 : va_P G.2.2.1 vwCl ((zw G h).set i (G.1 + i, .inl (G.2.1.1, n, .inl (upd (h.2.1 i) j.toNatClampNeg x)))) H1 := by
    refine hH.2.1.set zD hw ?_ oq
    show H1[G.1 + i]? = some (vp_cell _ _)
    rw [e1, vp_cell_i, vp_cell_i, arrV_store]
    congr 2
    funext q
    by_cases hq : q = j.toNatClampNeg
    · subst hq
      simp [updV, upd]
    · simp [updV, upd, hq]
  rw [zwI_set (Or.inl ⟨rfl, rfl⟩) hs, ← zup_row] at hP1
  exact K p l e Rm s m args below meth c0 n0 s0 Q H1 _ LS C0 hn ⟨by rw [z]; exact hH.1, hP1, hH.2.2⟩ (hS.put z oq (zD.2 i _ hw)) hL hQ
theorem zi_arraylength {i n : Nat} (hd : decode M.2.1 pc = .ok (.arraylength, 1)) (hs : h.1.2.2 i = (100, n)) (hi : i < h.1.1) (K : zA G d M (pc + 1) ls (.int (nI n) :: st) h R) : zA G d M pc ls (.ref i :: st) h R := by
  intro p l e Rm s m args below meth c0 n0 s0 Q H locs LS C0 hn hH hS hL hQ
  have hi2 : i < 1000 := Nat.lt_of_lt_of_le hi hH.2.2
  have hw := zw_get (G := G) hi
  rw [zce_i hs] at hw
  show W p l e Rm s m args below meth c0 H locs _ _ Q (F0 m pc LS (ztv G (.ref i) :: st.map (ztv G)))
  rw [ztv_lt hi2]
  exact va_alen C0.1 C0.2.1 C0.2.2.2.2.2.1.1 hH.2.1 i 0 hw rfl rfl hd (K p l e Rm s m args below meth c0 n0 s0 Q H locs LS C0 hn hH hS hL hQ)
end ZHEAP
end
section
/-! RULES: boolean arrays, the script, new cells, copies, calls -/
/-- the heap has just the cells of the world: by the room, and as they all stand -/
theorem zW_size {G : zG} {p : Program} {l : Launch} {e : Env} {Rm : Room} {s : State} {m : MethodId} {args : Array Value} {below : List Frame} {meth : Method} {c : Code} {H : Heap} {locs : List Loc} {slots n0 : Nat} {Q : State → Prop} {g : JFrame} {h : zH} (hn0 : s.heap.size = G.1 + n0) (hle : n0 ≤ h.1.1) (hP : va_P G.2.2.1 vwCl (zw G h) H) (hS : va_S (zO G) s.heap H locs)
    (K : H.size = G.1 + h.1.1 → W p l e Rm s m args below meth c H locs (h.1.1 - n0) slots Q g) : W p l e Rm s m args below meth c H locs (h.1.1 - n0) slots Q g := by
  intro T hT X
  have h1 := X.same.2.2.1
  have h2 : (T.setVm s.vm).heap = H := hT
  rw [h2, hn0] at h1
  have h3 : G.1 + h.1.1 ≤ H.size := by
    rcases Nat.eq_zero_or_pos h.1.1 with q | q
    · have := hS.1
      rw [hn0] at this
      omega
    · have := (hP (h.1.1 - 1) _ (zw_get (h := h) (G := G) (by omega))).lt
      simp only at this
      omega
  exact K (by omega) T hT X
theorem zu_native : Cond.native arraycopyName ∈ zU := zU_mem 701 (by decide +kernel) rfl
theorem zu_static : Cond.static arraycopyName ∈ zU := zU_mem 700 (by decide +kernel) rfl
theorem zu_system : Cond.initialized "java/lang/System" ∈ zU := zU_mem 70 (by decide +kernel) rfl
section ZCALLS
variable {G : zG} {d : Nat} {M : zM} {pc : Nat} {ls : List (Option Value)} {st : List Value} {h : zH} {R : zR}
theorem zi_zastore {i n : Nat} {j x : Int32} (hd : decode M.2.1 pc = .ok (.bastore, 1)) (hs : h.1.2.2 i = (101, n)) (hi : i < h.1.1) (hj : vp_in j n) (hx : vp_nar .boolean x = x) (K : zA G d M (pc + 1) ls st (h.1, zup h.2.1 i j.toNatClampNeg x, h.2.2.1, h.2.2.2) R) : zA G d M pc ls (.int x :: .int j :: .ref i :: st) h R := by
  intro p l e Rm s m args below meth c0 n0 s0 Q H locs LS C0 hn hH hS hL hQ
  have hi2 : i < 1000 := Nat.lt_of_lt_of_le hi hH.2.2
  have hw := zw_get (G := G) hi
  rw [zce_z hs] at hw
  show W p l e Rm s m args below meth c0 H locs _ _ Q (F0 m pc LS (.int x :: .int j :: ztv G (.ref i) :: st.map (ztv G)))
  rw [ztv_lt hi2]
  refine va_zast C0.1 C0.2.1 C0.2.2.2.2.2.1.1 hH.2.1 zD hS i 1 hw rfl hj hd (fun H1 locs1 hP1 _ hS1 => ?_)
  rw [hx, zwI_set (Or.inr ⟨rfl, rfl⟩) hs, ← zup_row] at hP1
  exact zW_size (h := (h.1, zup h.2.1 i j.toNatClampNeg x, h.2.2.1, h.2.2.2)) hn.1 hn.2.1 hP1 hS1 (fun hz => K p l e Rm s m args below meth c0 n0 s0 Q H1 _ LS C0 hn ⟨hz, hP1, hH.2.2⟩ hS1 hL hQ)
/-- System.arraycopy between int arrays -/
theorem zi_copy {ix i j n0 n1 : Nat} {sp dp n : Int32} (hd : decode M.2.1 pc = .ok (.invokestatic ix, 3)) (hl : Cond.methodLink M.1.cls ix arraycopyName ∈ zU) (hi : i < h.1.1) (hj : j < h.1.1) (hsi : h.1.2.2 i = (100, n0)) (hsj : h.1.2.2 j = (100, n1)) (h1 : ¬ sp < 0) (h2 : ¬ dp < 0) (h3 : ¬ n < 0) (h4 : sp.toNatClampNeg + n.toNatClampNeg ≤ n0) (h5 : dp.toNatClampNeg + n.toNatClampNeg ≤ n1) (hst : (st.map fun v => v.category).sum ≤ 8)
    (K : zA G (d + 1) M (pc + 3) ls st (h.1, zrow h.2.1 j (va_cpy (h.2.1 i) (h.2.1 j) sp.toNatClampNeg dp.toNatClampNeg n.toNatClampNeg), h.2.2.1, h.2.2.2) R) : zA G (d + 1) M pc ls (.int n :: .int dp :: .ref j :: .int sp :: .ref i :: st) h R := by
  intro p l e Rm s m args below meth c0 m0 s0 Q H locs LS C0 hn hH hS hL hQ
  have hi2 : i < 1000 := Nat.lt_of_lt_of_le hi hH.2.2
  have hj2 : j < 1000 := Nat.lt_of_lt_of_le hj hH.2.2
  have hwi := zw_get (G := G) hi
  rw [zce_i hsi] at hwi
  have hwj := zw_get (G := G) hj
  rw [zce_i hsj] at hwj
  show W p l e Rm s m args below meth c0 H locs _ _ Q (F0 m pc LS (.int n :: .int dp :: ztv G (.ref j) :: .int sp :: ztv G (.ref i) :: st.map (ztv G)))
  rw [ztv_lt hi2, ztv_lt hj2]
  refine va_copyi C0.1 C0.2.1 (C0.2.2.1.trans hL.1.symm) C0.2.2.2.1 (C0.2.2.2.2.1 _ hl) (C0.2.2.2.2.1 _ zu_native) (C0.2.2.2.2.1 _ zu_static) (C0.2.2.2.2.1 _ zu_system) C0.2.2.2.2.2.1.1 hH.2.1 zD hS i j 0 0 hwi hwj rfl rfl rfl h1 h2 h3 h4 h5 (fun _ _ => rfl) ?_ ?_ hd (fun H1 locs1 hP1 _ hS1 => ?_)
  · have := C0.2.2.2.2.2.2.2.1
    omega
  · rw [ztv_cats]
    have := C0.2.2.2.2.2.2.2.2
    have h9 : nativeFrameWords "java/lang/System" "arraycopy" 5 ≤ 40 := by decide +kernel
    omega
  · rw [zwI_set (Or.inl ⟨rfl, rfl⟩) hsj] at hP1
    exact zW_size (h := (h.1, zrow h.2.1 j (va_cpy (h.2.1 i) (h.2.1 j) sp.toNatClampNeg dp.toNatClampNeg n.toNatClampNeg), h.2.2.1, h.2.2.2)) hn.1 hn.2.1 hP1 hS1 (fun hz => K p l e Rm s m args below meth c0 m0 s0 Q H1 _ LS C0 hn ⟨hz, hP1, hH.2.2⟩ hS1 hL hQ)
/-- the state with a new object of class c -/
def zadd (h : zH) (c N sl : Nat) : zH := ((h.1.1 + 1, h.1.2.1 + sl, fun i => if i = h.1.1 then (c, N) else h.1.2.2 i), (fun a b => if a = h.1.1 then 0 else h.2.1 a b), (fun a b => if a = h.1.1 then 0 else h.2.2.1 a b), (fun a b => if a = h.1.1 then .null else h.2.2.2 a b))
theorem zadd_old {G : zG} {h : zH} {c N sl i : Nat} (hi : i < h.1.1) : zce G (zadd h c N sl) i = zce G h i := by
  have hne : i ≠ h.1.1 := Nat.ne_of_lt hi
  exact zce_congr (by simp [zadd, hne]) (by funext b; simp [zadd, hne]) (by funext b; simp [zadd, hne]) (by funext b; simp [zadd, hne])
theorem zi_new {ix c N : Nat} {C : String} {T : u_T} (hd : decode M.2.1 pc = .ok (.new ix, 3)) (hc : zCok c C T N) (hl : Cond.classLink M.1.cls ix C ∈ zU) (h1 : Cond.instantiable C N ∈ zU) (h2 : Cond.initialized C ∈ zU) (hz : h.1.1 + 1 ≤ 1000) (hR : h.1.1 + 1 ≤ R.2.1.1 ∧ h.1.2.1 + N ≤ R.2.1.2.1) (K : zA G d M (pc + 3) ls (.ref h.1.1 :: st) (zadd h c N N) R) : zA G d M pc ls st h R := by
  intro p l e Rm s m args below meth c0 n0 s0 Q H locs LS C0 hn hH hS hL hQ
  have hKn := C0.2.2.2.2.2.1.1.1 c _ hc.1
  refine W.newcK C0.1 C0.2.1 C0.2.2.2.1 (C0.2.2.2.2.1 _ hl) (C0.2.2.2.2.1 _ h1) (C0.2.2.2.2.1 _ h2) rfl hd (by omega) (by omega) hKn.2.1 hH.1 fun H1 kC hkC e1 z1 o1 => ?_
  have hk : ∀ (k : Nat) (x : Nat × va_E), (zw G h)[k]? = some x → H1[x.1]? = H[x.1]? := fun k x hx => o1 x.1 (by rw [← hH.1]; exact (hH.2.1 k x hx).lt)
  have hfs : ∀ j, j < N → defaultValue (zty c j) = vp_V ((List.range N).map (zfv G (zadd h c N N) c h.1.1)) j := by
    intro j hj
    rw [vp_V, List.getD_eq_getElem?_getD, List.getElem?_map, List.getElem?_range hj]
    simp only [Option.map_some, Option.getD_some, zfv, zfk]
    have hp := hc.2.2.2.2.2 j hj
    cases hz : zty c j <;> simp_all [zadd, defaultValue, ztv, zkt]
  have hP1 : va_P G.2.2.1 vwCl (zw G h ++ [(G.1 + h.1.1, .inr (c, (List.range N).map (zfv G (zadd h c N N) c h.1.1)))]) H1 := by
    refine (hH.2.1.kept hk).app (fun k x hx => ?_)
    have hz : k < 1 := (List.getElem?_eq_some_iff.mp hx).1
    rw [show k = 0 by omega] at hx
    cases hx
    exact ⟨_, hc.1, (u_born (zty c) C0.2.2.2.2.1 hc.2.1 hKn hkC e1 hc.2.2.1).to hfs⟩
  rw [zw_push (h' := zadd h c N N) rfl (by rw [zce_o (h := zadd h c N N) (c := c) (n := N) (by simp [zadd]) hc.2.2.2.2.1]) (fun j hj => zadd_old hj)] at hP1
  have hS1 : va_S (zO G) s.heap H1 locs := ⟨Nat.le_trans hS.1 (by rw [z1, hH.1]; omega), fun x g1 g2 => (o1 x (by rw [← hH.1]; exact Nat.lt_of_lt_of_le g1 hS.1)).trans (hS.2.1 x g1 g2), hS.2.2⟩
  have KK := K p l e Rm s m args below meth c0 n0 s0 Q H1 locs LS C0 ⟨hn.1, Nat.le_succ_of_le hn.2.1, Nat.le_trans hn.2.2.1 (Nat.le_add_right _ _), hn.2.2.2⟩ ⟨by rw [z1]; show _ = G.1 + (h.1.1 + 1); omega, hP1, hz⟩ hS1 hL hQ
  have e2 : (zadd h c N N).1.1 - n0 = h.1.1 - n0 + 1 := by show h.1.1 + 1 - n0 = _; omega
  have e3 : (zadd h c N N).1.2.1 - s0 = h.1.2.1 - s0 + N := by show h.1.2.1 + N - s0 = _; omega
  rw [e2, e3, List.map_cons, ztv_lt (by omega)] at KK
  exact KK
end ZCALLS
end
section
/-! RULES: new arrays, Object.<init>, the script, calls -/
section ZCALL2
variable {G : zG} {d : Nat} {M : zM} {pc : Nat} {ls : List (Option Value)} {st : List Value} {h : zH} {R : zR}
theorem zi_newarray {at_ : ArrayType} {n : Int32} {N c : Nat} {ty : FieldType} (hd : decode M.2.1 pc = .ok (.newarray at_, 2)) (hty : newarray.typeOf at_ = ty) (hc : (c = 100 ∧ ty = .int) ∨ (c = 101 ∧ ty = .boolean)) (hl : Cond.arrayClass ty ∈ zU) (hn0 : ¬ n < 0) (hN : n.toNatClampNeg = N) (hN2 : N ≤ 100000) (hz : h.1.1 + 1 ≤ 1000) (hR : h.1.1 + 1 ≤ R.2.1.1 ∧ h.1.2.1 + N ≤ R.2.1.2.1) (K : zA G d M (pc + 2) ls (.ref h.1.1 :: st) (zadd h c N N) R) : zA G d M pc ls (.int n :: st) h R := by
  intro p l e Rm s m args below meth c0 n0 s0 Q H locs LS C0 hn hH hS hL hQ
  subst hty
  have hb : N * componentBytes (newarray.typeOf at_) ≤ 536870912 := by
    have : componentBytes (newarray.typeOf at_) ≤ 8 := by cases at_ <;> decide
    calc N * componentBytes (newarray.typeOf at_) ≤ N * 8 := Nat.mul_le_mul_left _ this
      _ ≤ 536870912 := by omega
  refine va_newaK C0.1 C0.2.1 (C0.2.2.2.2.1 _ hl) rfl hd rfl hn0 hN hb (by omega) (by omega) hH.1 fun H1 cA e1 z1 o1 hAr hNm => ?_
  have hk : ∀ (k : Nat) (x : Nat × va_E), (zw G h)[k]? = some x → H1[x.1]? = H[x.1]? := fun k x hx => o1 x.1 (by rw [← hH.1]; exact (hH.2.1 k x hx).lt)
  have hI : (zadd h c N N).2.1 h.1.1 = fun _ => 0 := by funext b; simp [zadd]
  have hP1 : va_P G.2.2.1 vwCl (zw G h ++ [(G.1 + h.1.1, zce G (zadd h c N N) h.1.1)]) H1 := by
    refine (hH.2.1.kept hk).app (fun k x hx => ?_)
    have hz : k < 1 := (List.getElem?_eq_some_iff.mp hx).1
    rw [show k = 0 by omega] at hx
    cases hx
    rcases hc with ⟨rfl, hty⟩ | ⟨rfl, hty⟩
    · have hA : cA = G.2.1.1 := by
        have h1 := (C0.2.2.2.2.2.1.1.2 0 _ rfl).2
        have h2 : s.vm.findClass ("[" ++ FieldType.int.toString) = some G.2.1.1 := h1
        rw [hty] at hNm
        exact Option.some.inj (hNm.symm.trans h2)
      rw [zce_i (h := zadd h 100 N N) (n := N) (by simp [zadd]), hI]
      show H1[G.1 + h.1.1]? = some (vp_cell _ _)
      rw [e1, hA, hty]
      rfl
    · have hA : cA = G.2.1.2 := by
        have h1 := (C0.2.2.2.2.2.1.1.2 1 _ rfl).2
        have h2 : s.vm.findClass ("[" ++ FieldType.boolean.toString) = some G.2.1.2 := h1
        rw [hty] at hNm
        exact Option.some.inj (hNm.symm.trans h2)
      rw [zce_z (h := zadd h 101 N N) (n := N) (by simp [zadd]), hI]
      show H1[G.1 + h.1.1]? = some (vp_cell _ _)
      rw [e1, hA, hty]
      rfl
  rw [zw_push (h' := zadd h c N N) rfl rfl (fun j hj => zadd_old hj)] at hP1
  have hS1 : va_S (zO G) s.heap H1 locs := ⟨Nat.le_trans hS.1 (by rw [z1, hH.1]; omega), fun x g1 g2 => (o1 x (by rw [← hH.1]; exact Nat.lt_of_lt_of_le g1 hS.1)).trans (hS.2.1 x g1 g2), hS.2.2⟩
  have KK := K p l e Rm s m args below meth c0 n0 s0 Q H1 locs LS C0 ⟨hn.1, Nat.le_succ_of_le hn.2.1, Nat.le_trans hn.2.2.1 (Nat.le_add_right _ _), hn.2.2.2⟩ ⟨by rw [z1]; show _ = G.1 + (h.1.1 + 1); omega, hP1, hz⟩ hS1 hL hQ
  have e2 : (zadd h c N N).1.1 - n0 = h.1.1 - n0 + 1 := by show h.1.1 + 1 - n0 = _; omega
  have e3 : (zadd h c N N).1.2.1 - s0 = h.1.2.1 - s0 + N := by show h.1.2.1 + N - s0 = _; omega
  rw [e2, e3, List.map_cons, ztv_lt (by omega)] at KK
  exact KK
/-- Object.<init> -/
theorem zi_objInit {ix i : Nat} (hd : decode M.2.1 pc = .ok (.invokespecial ix, 3)) (hl : Cond.methodLink M.1.cls ix Lib.objectInit ∈ zU) (h1 : Cond.instanceMethod Lib.objectInit ∈ zU) (h2 : Cond.code Lib.objectInit ⟨#[0xb1]⟩ 1 none ∈ zU) (hst : (st.map fun v => v.category).sum ≤ 8) (K : zA G (d + 1) M (pc + 3) ls st h R) : zA G (d + 1) M pc ls (.ref i :: st) h R := by
  intro p l e Rm s m args below meth c0 n0 s0 Q H locs LS C0 hn hH hS hL hQ
  refine W.objInit (a := zad G i) (rest := st.map (ztv G)) C0.1 C0.2.1 C0.2.2.2.1 (C0.2.2.2.2.1 _ hl) (C0.2.2.2.2.1 _ h1) (C0.2.2.2.2.1 _ h2) rfl (hL.1.trans C0.2.2.1.symm) rfl hd ?_ ?_ (K p l e Rm s m args below meth c0 n0 s0 Q H locs LS C0 hn hH hS hL hQ)
  · have := C0.2.2.2.2.2.2.2.1
    omega
  · rw [ztv_cats]
    have := C0.2.2.2.2.2.2.2.2
    show 2 * 0 + _ + 12 ≤ _
    omega
/-- behind a call: the world that the callee leaves -/
theorem z_cont {G : zG} {p : Program} {l : Launch} {e : Env} {Rm : Room} {s : State} {m : MethodId} {args : Array Value} {below : List Frame} {meth : Method} {c : Code} {H : Heap} {locs : List Loc} {cells slots mc ms : Nat} {Q : State → Prop} {LS : Array Slot} {st0 rest : List Value} {a : Array Value} {R1 : zR}
    (hr : va_Run p l e Rm s m args below meth c H locs cells slots mc ms (F0 m pc LS st0) rest (zQc G R1 a) (zO G)) (hS : va_S (zO G) s.heap H locs)
    (kk : ∀ (H1 : Heap) (locs1 : List Loc), zHr G R1.2 H1 → va_S (zO G) s.heap H1 locs1 → W p l e Rm s m args below meth c H1 locs1 (cells + mc) (slots + ms) Q (F0 m (pc + 3) LS ((R1.1.map (ztv G)).toList ++ rest))) : W p l e Rm s m args below meth c H locs cells slots Q (F0 m pc LS st0) := by
  intro T hT X
  obtain ⟨v, st₀, t, T', L, h0, X', hL, e1, e2, ⟨hv, hH1, hz, hk⟩, sp⟩ := hr T hT X
  have hv2 : v = R1.1.map (ztv G) := by injection hv
  subst hv2
  rw [h0] at hz hk
  obtain ⟨t2, a1, b1⟩ := kk T'.heap (locs ++ L) (by rw [e1]; exact hH1)
    ⟨Nat.le_trans hS.1 (by rw [e1]; exact hz), fun q h1 h2 => by rw [e1, hk q (Nat.lt_of_lt_of_le h1 hS.1) h2]; exact hS.2.1 q h1 h2, fun q hq => by
      rcases List.mem_append.mp hq with h | h
      · exact hS.2.2 q h
      · exact hL q h⟩ T' rfl X'
  exact ⟨t2, sp t2 a1, b1⟩
/-- what all calls share: the rest of the frame behind the call -/
theorem z_rest {G : zG} {p : Program} {l : Launch} {e : Env} {Rm : Room} {s : State} {m : MethodId} {args : Array Value} {below : List Frame} {meth : Method} {c : Code} {n0 s0 : Nat} {Q : State → Prop} {LS : Array Slot} {R1 : zR} {H1 : Heap} {locs1 : List Loc} (hm : h.1.1 ≤ R1.2.1.1 ∧ h.1.2.1 ≤ R1.2.1.2.1) (K : zA G (d + 1) M (pc + 3) ls (R1.1.toList ++ st) R1.2 R) (C0 : zC G (d + 1) M p Rm s m args meth c) (hn : s.heap.size = G.1 + n0 ∧ n0 ≤ h.1.1 ∧ s0 ≤ h.1.2.1 ∧ R.2.1.1 - n0 ≤ Rm.cells ∧ R.2.1.2.1 - s0 ≤ Rm.slots) (hH1 : zHr G R1.2 H1) (hS1 : va_S (zO G) s.heap H1 locs1) (hL : zLr G ls M.2.2.1 LS) (hQ : zRet G M R p l e Rm s m args below meth c n0 s0 Q) :
    W p l e Rm s m args below meth c H1 locs1 (h.1.1 - n0 + (R1.2.1.1 - h.1.1)) (h.1.2.1 - s0 + (R1.2.1.2.1 - h.1.2.1)) Q (F0 m (pc + 3) LS ((R1.1.map (ztv G)).toList ++ st.map (ztv G))) := by
  have KK := K p l e Rm s m args below meth c n0 s0 Q H1 locs1 LS C0 ⟨hn.1, Nat.le_trans hn.2.1 hm.1, Nat.le_trans hn.2.2.1 hm.2, hn.2.2.2⟩ hH1 hS1 hL hQ
  have e1 : h.1.1 - n0 + (R1.2.1.1 - h.1.1) = R1.2.1.1 - n0 := by omega
  have e2 : h.1.2.1 - s0 + (R1.2.1.2.1 - h.1.2.1) = R1.2.1.2.1 - s0 := by omega
  have e3 : (R1.1.toList ++ st).map (ztv G) = (R1.1.map (ztv G)).toList ++ st.map (ztv G) := by
    rw [List.map_append]
    cases R1.1 <;> rfl
  rw [e1, e2, ← e3]
  exact KK
/-- how many arguments a method takes -/
def zar (N : zM) (n : Nat) : Prop := (parseMethodDescriptor N.1.desc).map (fun d => d.parameters.length) = some n
theorem z_pre {G : zG} {s : State} {H : Heap} {locs : List Loc} {av : List Value} (hH : zHr G h H) (hS : va_S (zO G) s.heap H locs) (hK : zK G s) : PreS s H (zPc G av h) (av.map (ztv G)) :=
  ⟨zPc_blind, fun U hU hW => ⟨rfl, by rw [hU]; exact hH, hK.kept hS hU hW⟩⟩
/-- a static method -/
theorem zi_callS {ix : Nat} {N : zM} {av stk : List Value} {R1 : zR} (hd : decode M.2.1 pc = .ok (.invokestatic ix, 3)) (hN : zMok N) (hl : Cond.methodLink M.1.cls ix N.1 ∈ zU) (h1 : Cond.static N.1 ∈ zU) (hn1 : zar N av.length) (hstk : stk = av.reverse ++ st) (hst : (st.map fun v => v.category).sum ≤ 8) (hc : zCall d N av h R1) (hR : R1.2.1.1 ≤ R.2.1.1 ∧ R1.2.1.2.1 ≤ R.2.1.2.1) (K : zA G (d + 1) M (pc + 3) ls (R1.1.toList ++ st) R1.2 R) : zA G (d + 1) M pc ls stk h R := by
  intro p l e Rm s m args below meth c0 n0 s0 Q H locs LS C0 hn hH hS hL hQ
  subst hstk
  have hm := hc.1
  have hr := va_runS (As := av.map (ztv G)) (rest := st.map (ztv G)) (n := av.length) (g := F0 m pc LS ((av.reverse ++ st).map (ztv G))) (below := below) (meth := meth) (e := e) (cells := h.1.1 - n0) (slots := h.1.2.1 - s0) (locs := locs) (H := H) ⟨C0.1, C0.2.1, C0.2.2.1, C0.2.2.2.1, C0.2.2.2.2.1⟩ (hc.2 G l) ⟨callB_of (bytes := N.2.1) (maxL := N.2.2.1) (ret := N.2.2.2) (own := M.1.cls) (index := ix) av.length C0.2.2.2.2.1 (zGood hN) rfl rfl rfl (C0.2.2.2.2.1 _ hN.2.2.1) (C0.2.2.2.2.1 _ hl) ⟨hN.2.2.2.1.1, hN.2.2.2.1.2, hn1⟩ ⟨by show d + 1 ≤ _; exact C0.2.2.2.2.2.2.2.1, by show 8 + (_ + 11) + 64 * d ≤ _; have := C0.2.2.2.2.2.2.2.2; have := hN.2.2.2.2; omega⟩, C0.2.2.2.2.1 _ h1⟩ (z_pre hH hS C0.2.2.2.2.2.1) rfl (by simp) hL.1 (by show _ = _; rw [List.map_append, List.map_reverse]) (by rw [ztv_cats]; show 2 * 0 + _ ≤ 8; omega) hd ⟨by omega, by omega⟩
  exact z_cont hr hS (fun H1 locs1 hH1 hS1 => z_rest hm K C0 hn hH1 hS1 hL hQ)
/-- a private static method of a nest mate -/
theorem zi_callSN {ix : Nat} {N : zM} {av stk : List Value} {R1 : zR} (hd : decode M.2.1 pc = .ok (.invokestatic ix, 3)) (hN : zMok N) (hl : (M.1.cls, ix, N.1) ∈ zNest) (h1 : Cond.static N.1 ∈ zU) (hn1 : zar N av.length) (hstk : stk = av.reverse ++ st) (hst : (st.map fun v => v.category).sum ≤ 8) (hc : zCall d N av h R1) (hR : R1.2.1.1 ≤ R.2.1.1 ∧ R1.2.1.2.1 ≤ R.2.1.2.1) (K : zA G (d + 1) M (pc + 3) ls (R1.1.toList ++ st) R1.2 R) : zA G (d + 1) M pc ls stk h R := by
  intro p l e Rm s m args below meth c0 n0 s0 Q H locs LS C0 hn hH hS hL hQ
  subst hstk
  have hm := hc.1
  have hr := va_runSN (As := av.map (ztv G)) (rest := st.map (ztv G)) (n := av.length) (g := F0 m pc LS ((av.reverse ++ st).map (ztv G))) (below := below) (meth := meth) (e := e) (cells := h.1.1 - n0) (slots := h.1.2.1 - s0) (locs := locs) (H := H) ⟨C0.1, C0.2.1, C0.2.2.1, C0.2.2.2.1, C0.2.2.2.2.1⟩ (hc.2 G l) ⟨va_cnB (bytes := N.2.1) (maxL := N.2.2.1) (ret := N.2.2.2) (own := M.1.cls) (index := ix) (host := "CheeseHill") av.length C0.2.2.2.2.1 (zGood hN) rfl rfl rfl (C0.2.2.2.2.2.1.2.1 _ hl) (C0.2.2.2.2.1 _ hN.2.2.1) ⟨hN.2.2.2.1.1, hN.2.2.2.1.2, hn1⟩ ⟨by show d + 1 ≤ _; exact C0.2.2.2.2.2.2.2.1, by show 8 + (_ + 11) + 64 * d ≤ _; have := C0.2.2.2.2.2.2.2.2; have := hN.2.2.2.2; omega⟩, C0.2.2.2.2.1 _ h1, trivial⟩ (z_pre hH hS C0.2.2.2.2.2.1) rfl (by simp) hL.1 (by show _ = _; rw [List.map_append, List.map_reverse]) (by rw [ztv_cats]; show 2 * 0 + _ ≤ 8; omega) hd ⟨by omega, by omega⟩
  exact z_cont hr hS (fun H1 locs1 hH1 hS1 => z_rest hm K C0 hn hH1 hS1 hL hQ)
/-- a constructor, of a nest mate's too -/
theorem zi_callI {ix i : Nat} {N : zM} {av stk : List Value} {R1 : zR} (hd : decode M.2.1 pc = .ok (.invokespecial ix, 3)) (hN : zMok N) (hl : Cond.methodLink M.1.cls ix N.1 ∈ zU) (h1 : Cond.instanceMethod N.1 ∈ zU) (hnm : N.1.name = "<init>") (hrt : N.2.2.2 = none) (hn1 : zar N av.length) (hi : i < h.1.1) (hstk : stk = av.reverse ++ .ref i :: st) (hst : (st.map fun v => v.category).sum ≤ 8) (hc : zCall d N (.ref i :: av) h R1) (hR : R1.2.1.1 ≤ R.2.1.1 ∧ R1.2.1.2.1 ≤ R.2.1.2.1) (K : zA G (d + 1) M (pc + 3) ls (R1.1.toList ++ st) R1.2 R) : zA G (d + 1) M pc ls stk h R := by
  intro p l e Rm s m args below meth c0 n0 s0 Q H locs LS C0 hn hH hS hL hQ
  subst hstk
  obtain ⟨N1, N2, N3, N4⟩ := N
  cases hrt
  have hm := hc.1
  have hr := va_runI (b := zad G i) (As := av.map (ztv G)) (rest := st.map (ztv G)) (n := av.length) (g := F0 m pc LS ((av.reverse ++ .ref i :: st).map (ztv G))) (below := below) (meth := meth) (e := e) (cells := h.1.1 - n0) (slots := h.1.2.1 - s0) (locs := locs) (H := H) ⟨C0.1, C0.2.1, C0.2.2.1, C0.2.2.2.1, C0.2.2.2.2.1⟩ (hc.2 G l) ⟨callB_of (bytes := N2) (maxL := N3) (ret := none) (own := M.1.cls) (index := ix) av.length C0.2.2.2.2.1 (zGood hN) rfl rfl rfl (C0.2.2.2.2.1 _ hN.2.2.1) (C0.2.2.2.2.1 _ hl) ⟨hN.2.2.2.1.1, hN.2.2.2.1.2, hn1⟩ ⟨by show d + 1 ≤ _; exact C0.2.2.2.2.2.2.2.1, by show 8 + (_ + 11) + 64 * d ≤ _; have := C0.2.2.2.2.2.2.2.2; have : N3 + 19 ≤ 64 := hN.2.2.2.2; omega⟩, hnm, C0.2.2.2.2.1 _ h1⟩ (z_pre (av := .ref i :: av) hH hS C0.2.2.2.2.2.1) rfl (by simp) hL.1 (by show _ = _; rw [List.map_append, List.map_reverse]; rfl) (by rw [ztv_cats]; show 2 * 0 + _ ≤ 8; omega) hd ⟨by omega, by omega⟩
  exact z_cont hr hS (fun H1 locs1 hH1 hS1 => z_rest hm K C0 hn hH1 hS1 hL hQ)
theorem zi_callIN {ix i : Nat} {N : zM} {av stk : List Value} {R1 : zR} (hd : decode M.2.1 pc = .ok (.invokespecial ix, 3)) (hN : zMok N) (hl : (M.1.cls, ix, N.1) ∈ zNest) (h1 : Cond.instanceMethod N.1 ∈ zU) (hnm : N.1.name = "<init>") (hrt : N.2.2.2 = none) (hn1 : zar N av.length) (hi : i < h.1.1) (hstk : stk = av.reverse ++ .ref i :: st) (hst : (st.map fun v => v.category).sum ≤ 8) (hc : zCall d N (.ref i :: av) h R1) (hR : R1.2.1.1 ≤ R.2.1.1 ∧ R1.2.1.2.1 ≤ R.2.1.2.1) (K : zA G (d + 1) M (pc + 3) ls (R1.1.toList ++ st) R1.2 R) : zA G (d + 1) M pc ls stk h R := by
  intro p l e Rm s m args below meth c0 n0 s0 Q H locs LS C0 hn hH hS hL hQ
  subst hstk
  obtain ⟨N1, N2, N3, N4⟩ := N
  cases hrt
  have hm := hc.1
  have hr := va_runIN (b := zad G i) (As := av.map (ztv G)) (rest := st.map (ztv G)) (n := av.length) (g := F0 m pc LS ((av.reverse ++ .ref i :: st).map (ztv G))) (below := below) (meth := meth) (e := e) (cells := h.1.1 - n0) (slots := h.1.2.1 - s0) (locs := locs) (H := H) ⟨C0.1, C0.2.1, C0.2.2.1, C0.2.2.2.1, C0.2.2.2.2.1⟩ (hc.2 G l) ⟨va_cnB (bytes := N2) (maxL := N3) (ret := none) (own := M.1.cls) (index := ix) (host := "CheeseHill") av.length C0.2.2.2.2.1 (zGood hN) rfl rfl rfl (C0.2.2.2.2.2.1.2.1 _ hl) (C0.2.2.2.2.1 _ hN.2.2.1) ⟨hN.2.2.2.1.1, hN.2.2.2.1.2, hn1⟩ ⟨by show d + 1 ≤ _; exact C0.2.2.2.2.2.2.2.1, by show 8 + (_ + 11) + 64 * d ≤ _; have := C0.2.2.2.2.2.2.2.2; have : N3 + 19 ≤ 64 := hN.2.2.2.2; omega⟩, hnm, C0.2.2.2.2.1 _ h1⟩ (z_pre (av := .ref i :: av) hH hS C0.2.2.2.2.2.1) rfl (by simp) hL.1 (by show _ = _; rw [List.map_append, List.map_reverse]; rfl) (by rw [ztv_cats]; show 2 * 0 + _ ≤ 8; omega) hd ⟨by omega, by omega⟩
  exact z_cont hr hS (fun H1 locs1 hH1 hS1 => z_rest hm K C0 hn hH1 hS1 hL hQ)
/-- an object's class at the machine -/
theorem z_recv {G : zG} {s : State} {H : Heap} {i c N : Nat} {C : String} {T : u_T} (hc : zCok c C T N) (hs : h.1.2.2 i = (c, N)) (hi : i < h.1.1) (hH : zHr G h H) (hK : zK G s) : ∃ cell : Cell, H[zad G i]? = some cell ∧ cell.vm.isStatics = false ∧ s.vm.findClass C = some cell.cls := by
  have hi2 : i < 1000 := Nat.lt_of_lt_of_le hi hH.2.2
  have hw := zw_get (G := G) hi
  rw [zce_o hs hc.2.2.2.2.1] at hw
  rw [zad_lt hi2]
  exact va_recv hK.1 hH.2.1 hc.1 hw
/-- a method of an object whose class has it -/
theorem zi_callV {ix i c k : Nat} {C : String} {T : u_T} {N : zM} {av stk : List Value} {R1 : zR} (hd : decode M.2.1 pc = .ok (.invokevirtual ix, 3)) (hN : zMok N) (hl : Cond.methodLink M.1.cls ix N.1 ∈ zU) (h1 : Cond.instanceMethod N.1 ∈ zU) (h2 : Cond.selects C N.1 N.1 ∈ zU) (hc0 : zCok c C T k) (hs : h.1.2.2 i = (c, k)) (hi : i < h.1.1) (hn1 : zar N av.length) (hstk : stk = av.reverse ++ .ref i :: st) (hst : (st.map fun v => v.category).sum ≤ 8) (hc : zCall d N (.ref i :: av) h R1) (hR : R1.2.1.1 ≤ R.2.1.1 ∧ R1.2.1.2.1 ≤ R.2.1.2.1) (K : zA G (d + 1) M (pc + 3) ls (R1.1.toList ++ st) R1.2 R) : zA G (d + 1) M pc ls stk h R := by
  intro p l e Rm s m args below meth c0 n0 s0 Q H locs LS C0 hn hH hS hL hQ
  subst hstk
  have hm := hc.1
  have hpre := z_pre (av := .ref i :: av) hH hS C0.2.2.2.2.2.1
  have hr := va_runV (C := C) (b := zad G i) (As := av.map (ztv G)) (rest := st.map (ztv G)) (n := av.length) (g := F0 m pc LS ((av.reverse ++ .ref i :: st).map (ztv G))) (below := below) (meth := meth) (e := e) (cells := h.1.1 - n0) (slots := h.1.2.1 - s0) (locs := locs) (H := H) ⟨C0.1, C0.2.1, C0.2.2.1, C0.2.2.2.1, C0.2.2.2.2.1⟩ (hc.2 G l) ⟨callB_of (bytes := N.2.1) (maxL := N.2.2.1) (ret := N.2.2.2) (own := M.1.cls) (index := ix) av.length C0.2.2.2.2.1 (zGood hN) rfl rfl rfl (C0.2.2.2.2.1 _ hN.2.2.1) (C0.2.2.2.2.1 _ hl) ⟨hN.2.2.2.1.1, hN.2.2.2.1.2, hn1⟩ ⟨by show d + 1 ≤ _; exact C0.2.2.2.2.2.2.2.1, by show 8 + (_ + 11) + 64 * d ≤ _; have := C0.2.2.2.2.2.2.2.2; have := hN.2.2.2.2; omega⟩, C0.2.2.2.2.1 _ h1, C0.2.2.2.2.1 _ h2⟩ ⟨hpre.1, z_recv hc0 hs hi hH C0.2.2.2.2.2.1, hpre.2⟩ rfl (by simp) hL.1 (by show _ = _; rw [List.map_append, List.map_reverse]; rfl) (by rw [ztv_cats]; show 2 * 0 + _ ≤ 8; omega) hd ⟨by omega, by omega⟩
  exact z_cont hr hS (fun H1 locs1 hH1 hS1 => z_rest hm K C0 hn hH1 hS1 hL hQ)
end ZCALL2
end
section
/-! RULES: inherited and overriding methods, super, the script, texts -/
section ZCALL3
variable {G : zG} {d : Nat} {M : zM} {pc : Nat} {ls : List (Option Value)} {st : List Value} {h : zH} {R : zR}
/-- a method that the link names as x, found by the object's class C as N; x is declared by the class owner -/
theorem zi_callU {ix i c k : Nat} {C owner : String} {T : u_T} {x : MethodName} {N N0 : zM} {av stk : List Value} {R1 : zR} (hd : decode M.2.1 pc = .ok (.invokevirtual ix, 3)) (hN : zMok N) (hl : Cond.methodLink M.1.cls ix x ∈ zU) (h1 : Cond.sameMethod x.cls owner x.name x.desc ∈ zU) (h2 : Cond.selects C x N.1 ∈ zU) (h3 : Cond.instanceMethod N.1 ∈ zU) (h4 : Cond.instanceMethod N0.1 ∈ zU) (h5 : Cond.code N0.1 N0.2.1 N0.2.2.1 N0.2.2.2 ∈ zU) (h6 : N0.1 = ⟨owner, x.name, x.desc⟩) (h7 : owner ≠ "java/lang/invoke/MethodHandle" ∧ owner ≠ "java/lang/invoke/VarHandle")
    (hc0 : zCok c C T k) (hs : h.1.2.2 i = (c, k)) (hi : i < h.1.1) (hn1 : (parseMethodDescriptor x.desc).map (fun d => d.parameters.length) = some av.length) (hstk : stk = av.reverse ++ .ref i :: st) (hst : (st.map fun v => v.category).sum ≤ 8) (hc : zCall d N (.ref i :: av) h R1) (hR : R1.2.1.1 ≤ R.2.1.1 ∧ R1.2.1.2.1 ≤ R.2.1.2.1) (K : zA G (d + 1) M (pc + 3) ls (R1.1.toList ++ st) R1.2 R) : zA G (d + 1) M pc ls stk h R := by
  intro p l e Rm s m args below meth c0 n0 s0 Q H locs LS C0 hn hH hS hL hQ
  subst hstk
  have hm := hc.1
  have hpre := z_pre (av := .ref i :: av) hH hS C0.2.2.2.2.2.1
  have hw := C0.2.2.2.2.1
  have hcu : va_CU Rm s args M.1.cls C owner ix x N.1 N.2.1 N.2.2.1 N.2.2.2 (zws N) (zrm d (R1.2.1.1 - h.1.1) (R1.2.1.2.1 - h.1.2.1)) (R1.2.1.1 - h.1.1) (R1.2.1.2.1 - h.1.2.1) av.length := by
    refine ⟨⟨rfl, rfl, ?_, ?_, pay_in hw (zGood hN), List.mem_cons_self⟩, hw _ hN.2.1, hw _ hN.2.2.1, h7, fun sig hsig => ?_, hw _ hl, hw _ h1, ?_, hw _ h2, hw _ h3⟩
    · show d + 1 ≤ _
      exact C0.2.2.2.2.2.2.2.1
    · show 8 + (_ + 11) + 64 * d ≤ _
      have := C0.2.2.2.2.2.2.2.2
      have := hN.2.2.2.2
      omega
    · rw [hsig] at hn1
      exact (Option.some.inj hn1).symm
    · rw [← h6]
      exact va_Decl.of (hw _ h4) (hw _ h5)
  have hr := va_runU (C := C) (b := zad G i) (As := av.map (ztv G)) (rest := st.map (ztv G)) (n := av.length) (g := F0 m pc LS ((av.reverse ++ .ref i :: st).map (ztv G))) (below := below) (meth := meth) (e := e) (cells := h.1.1 - n0) (slots := h.1.2.1 - s0) (locs := locs) (H := H) ⟨C0.1, C0.2.1, C0.2.2.1, C0.2.2.2.1, hw⟩ (hc.2 G l) hcu ⟨hpre.1, z_recv hc0 hs hi hH C0.2.2.2.2.2.1, hpre.2⟩ rfl (by simp) hL.1 (by show _ = _; rw [List.map_append, List.map_reverse]; rfl) (by rw [ztv_cats]; show 2 * 0 + _ ≤ 8; omega) hd ⟨by omega, by omega⟩
  exact z_cont hr hS (fun H1 locs1 hH1 hS1 => z_rest hm K C0 hn hH1 hS1 hL hQ)
/-- a method of the class above -/
theorem zi_callSU {ix i c k : Nat} {C : String} {T : u_T} {N : zM} {av stk : List Value} {R1 : zR} (hd : decode M.2.1 pc = .ok (.invokespecial ix, 3)) (hN : zMok N) (hl : Cond.methodLink M.1.cls ix N.1 ∈ zU) (h1 : Cond.sameMethod N.1.cls N.1.cls N.1.name N.1.desc ∈ zU) (h2 : Cond.superclass M.1.cls N.1.cls ∈ zU) (h3 : Cond.instanceMethod N.1 ∈ zU) (h4 : N.1.name ≠ "<init>")
    (hc0 : zCok c C T k) (hs : h.1.2.2 i = (c, k)) (hi : i < h.1.1) (hn1 : zar N av.length) (hstk : stk = av.reverse ++ .ref i :: st) (hst : (st.map fun v => v.category).sum ≤ 8) (hc : zCall d N (.ref i :: av) h R1) (hR : R1.2.1.1 ≤ R.2.1.1 ∧ R1.2.1.2.1 ≤ R.2.1.2.1) (K : zA G (d + 1) M (pc + 3) ls (R1.1.toList ++ st) R1.2 R) : zA G (d + 1) M pc ls stk h R := by
  intro p l e Rm s m args below meth c0 n0 s0 Q H locs LS C0 hn hH hS hL hQ
  subst hstk
  have hm := hc.1
  have hpre := z_pre (av := .ref i :: av) hH hS C0.2.2.2.2.2.1
  have hw := C0.2.2.2.2.1
  have hKn := C0.2.2.2.2.2.1.1.1 c _ hc0.1
  have hcs : va_CS Rm s args M.1.cls ix N.1 N.2.1 N.2.2.1 N.2.2.2 (zws N) (zrm d (R1.2.1.1 - h.1.1) (R1.2.1.2.1 - h.1.2.1)) (R1.2.1.1 - h.1.1) (R1.2.1.2.1 - h.1.2.1) av.length := by
    refine va_cwSU (ws' := zU) av.length hw (fun w h => ?_) rfl rfl rfl ⟨h4, hn1⟩ ⟨?_, ?_⟩
    · rcases List.mem_append.mp h with q | q
      · simp only [List.mem_cons, List.not_mem_nil, or_false] at q
        rcases q with rfl | rfl | rfl | rfl | rfl
        · exact ⟨hl, zU_good hl⟩
        · exact ⟨h1, zU_good h1⟩
        · exact ⟨h2, zU_good h2⟩
        · exact ⟨h3, zU_good h3⟩
        · exact ⟨hN.2.2.1, zU_good hN.2.2.1⟩
      · exact zGood hN w q
    · show d + 1 ≤ _
      exact C0.2.2.2.2.2.2.2.1
    · show 8 + (_ + 11) + 64 * d ≤ _
      have := C0.2.2.2.2.2.2.2.2
      have := hN.2.2.2.2
      omega
  have hr := va_runSU (C := C) (b := zad G i) (As := av.map (ztv G)) (rest := st.map (ztv G)) (n := av.length) (g := F0 m pc LS ((av.reverse ++ .ref i :: st).map (ztv G))) (below := below) (meth := meth) (e := e) (cells := h.1.1 - n0) (slots := h.1.2.1 - s0) (locs := locs) (H := H) hKn.2 ⟨C0.1, C0.2.1, C0.2.2.1, C0.2.2.2.1, hw⟩ (hc.2 G l) hcs ⟨hpre.1, z_recv hc0 hs hi hH C0.2.2.2.2.2.1, hpre.2⟩ rfl (by simp) hL.1 (by show _ = _; rw [List.map_append, List.map_reverse]; rfl) (by rw [ztv_cats]; show 2 * 0 + _ ≤ 8; omega) hd ⟨by omega, by omega⟩
  exact z_cont hr hS (fun H1 locs1 hH1 hS1 => z_rest hm K C0 hn hH1 hS1 hL hQ)
/-- a text's constant: number k -/
theorem zi_ldcS {ix k : Nat} {tx : String} (hd : decode M.2.1 pc = .ok (.ldc ix, 2)) (hM : M.1.cls = RX7) (hk : zTx[k]? = some (ix, tx)) (K : zA G d M (pc + 2) ls (.ref (1000 + k) :: st) h R) : zA G d M pc ls st h R := by
  intro p l e Rm s m args below meth c0 n0 s0 Q H locs LS C0 hn hH hS hL hQ
  have hk5 : k < 5 := (List.getElem?_eq_some_iff.mp hk).1
  have hz := C0.2.2.2.2.2.1.2.2.1 k _ hk
  have KK := K p l e Rm s m args below meth c0 n0 s0 Q H locs LS C0 hn hH hS hL hQ
  have e1 : ztv G (.ref (1000 + k)) = .ref (G.2.2.2.1.1 k) := by
    have h1 : ¬ 1000 + k < 1000 := by omega
    have h2 : 1000 + k < 1100 := by omega
    simp [ztv, zad, h1, h2]
  rw [List.map_cons, e1] at KK
  exact va_ldcS C0.1 C0.2.1 (by rw [← hM]; exact C0.2.2.2.1) hz hd KK
end ZCALL3
end
section
/-! RULE: super, where the class above inherits the method from the next one above -/
section ZSUPER
variable {G : zG} {d : Nat} {M : zM} {pc : Nat} {ls : List (Option Value)} {st : List Value} {h : zH} {R : zR}
theorem zi_callSX {ix i c k : Nat} {C : String} {T : u_T} {x : MethodName} {N : zM} {av stk : List Value} {R1 : zR} (hd : decode M.2.1 pc = .ok (.invokespecial ix, 3)) (hN : zMok N) (hl : Cond.methodLink M.1.cls ix x ∈ zU) (h1 : Cond.sameMethod x.cls N.1.cls x.name x.desc ∈ zU) (h2 : Cond.superclass M.1.cls x.cls ∈ zU) (h2b : Cond.superclass x.cls N.1.cls ∈ zU) (h3 : Cond.instanceMethod N.1 ∈ zU) (h4 : x.name ≠ "<init>") (h5 : N.1 = ⟨N.1.cls, x.name, x.desc⟩)
    (hc0 : zCok c C T k) (hs : h.1.2.2 i = (c, k)) (hi : i < h.1.1) (hn1 : zar N av.length) (hstk : stk = av.reverse ++ .ref i :: st) (hst : (st.map fun v => v.category).sum ≤ 8) (hc : zCall d N (.ref i :: av) h R1) (hR : R1.2.1.1 ≤ R.2.1.1 ∧ R1.2.1.2.1 ≤ R.2.1.2.1) (K : zA G (d + 1) M (pc + 3) ls (R1.1.toList ++ st) R1.2 R) : zA G (d + 1) M pc ls stk h R := by
  intro p l e Rm s m args below meth c0 n0 s0 Q H locs LS C0 hn hH hS hL hQ
  subst hstk
  have hm := hc.1
  have hpre := z_pre (av := .ref i :: av) hH hS C0.2.2.2.2.2.1
  have hw := C0.2.2.2.2.1
  obtain ⟨cellB, hcB, hoB, hclB⟩ := z_recv hc0 hs hi hH C0.2.2.2.2.2.1
  have hKn := C0.2.2.2.2.2.1.1.1 c _ hc0.1
  obtain ⟨hfcK, kB, hkB, -⟩ := hKn.2
  have hcc : s.vm.classes[cellB.cls]? = some kB := by
    rw [← Option.some.inj (hfcK.symm.trans hclB)]
    exact hkB
  have hK : Back l Rm p e below s args N.1 3 8 (PreOf Rm (R1.2.1.1 - h.1.1) (R1.2.1.2.1 - h.1.2.1) (zPc G (.ref i :: av) h)) (PostOf (zQc G R1) (R1.2.1.1 - h.1.1) (R1.2.1.2.1 - h.1.2.1) (zO G)) := by
    refine back_of (bytes := N.2.1) (maxL := N.2.2.1) (ret := N.2.2.2) (hc.2 G l) zPc_blind rfl rfl ?_ ?_ (pay_in hw (zGood hN)) List.mem_cons_self (fun a' U hW => word_at hW (zU_good hN.2.2.1) (hw _ hN.2.2.1))
    · show d + 1 ≤ _
      exact C0.2.2.2.2.2.2.2.1
    · show 8 + (_ + 11) + 64 * d ≤ _
      have := C0.2.2.2.2.2.2.2.2
      have := hN.2.2.2.2
      omega
  obtain ⟨mk, methM, hnamed, hmethM, hstM, habM⟩ := Cond.instanceMethod_spec (hw _ h3)
  obtain ⟨methM', cM, hmethM', -, -, -, -, -, -, hsigM⟩ := Cond.code_spec hnamed (hw _ hN.2.1)
  cases hmethM.symm.trans hmethM'
  obtain ⟨ps, dk, kp, hps, hdk, hkp, hsuper, -, -, hnid⟩ := Cond.superclass_spec C0.2.2.2.1 (hw _ h2)
  obtain ⟨p2, k2, kp2, hp2, hk2, hkp2, hsup2, -, -, -⟩ := Cond.superclass_spec hps (hw _ h2b)
  have hpm : p2 = mk.cls := Option.some.inj (hp2.symm.trans (findClass_of_methodNamed hnamed))
  have hsz : 0 < s.vm.classes.size := Nat.lt_of_le_of_lt (Nat.zero_le _) (Array.getElem?_eq_some_iff.mp hk2).1
  have hsub : s.vm.isSubclass ps mk.cls = true := by
    obtain ⟨q, hq⟩ : ∃ q, s.vm.classes.size = q + 1 := ⟨s.vm.classes.size - 1, by omega⟩
    simp [Vm.isSubclass, Vm.isSubclassAux, hq, hk2, hsup2, hpm]
  have hr : va_Run p l e Rm s m args below meth c0 H locs (h.1.1 - n0) (h.1.2.1 - s0) (R1.2.1.1 - h.1.1) (R1.2.1.2.1 - h.1.2.1) (F0 m pc LS ((av.reverse ++ .ref i :: st).map (ztv G))) (st.map (ztv G)) (zQc G R1 ((.ref i :: av).map (ztv G)).toArray) (zO G) := by
    intro T hT X
    have hlen : (av.map (ztv G)).length = methM.sig.parameters.length := by
      rw [List.length_map]
      have hn2 : (parseMethodDescriptor N.1.desc).map (fun d => d.parameters.length) = some av.length := hn1
      rw [hsigM] at hn2
      exact (Option.some.inj hn2).symm
    obtain ⟨vm₁, X₁, hstep₁⟩ := X.invokespecialUp C0.1 C0.2.2.2.1 (hw _ hl) (hw _ h1) (by rw [← h5]; exact hnamed) hmethM hstM habM h4 hdk hnid hps hsuper hsub (a := zad G i) (cell := cellB) (by rw [hT]; exact hcB)
      (fun z q => by rw [q] at hoB; cases hoB) hcc (g := F0 m pc LS ((av.reverse ++ .ref i :: st).map (ztv G))) rfl (argsL := av.map (ztv G)) (rest := st.map (ztv G)) hlen (by show _ = _; rw [List.map_append, List.map_reverse]; rfl) (by rw [C0.2.1]; exact hd)
    obtain ⟨v, B, X', hpost, hsteps⟩ := hK m meth c0 ⟨T.setVm vm₁, locs, h.1.1 - n0, h.1.2.1 - s0⟩ { F0 m pc LS ((av.reverse ++ .ref i :: st).map (ztv G)) with stack := st.map (ztv G) } (.invokespecial ix) mk ((.ref i :: av).map (ztv G)).toArray X₁ rfl (hL.1.trans C0.2.2.1.symm) (by rw [C0.2.1]; exact hd) (by show 2 * 0 + _ ≤ 8; rw [ztv_cats]; omega) (X₁.named hnamed) ⟨by show h.1.1 - n0 + (R1.2.1.1 - h.1.1) ≤ Rm.cells; omega, by show h.1.2.1 - s0 + (R1.2.1.2.1 - h.1.2.1) ≤ Rm.slots; omega, hpre.2 (T.setVm vm₁) hT X₁.warmed⟩
    obtain ⟨g', mk2, t, L, e1, e2, hq, f1, hLL, f2, f3⟩ := hpost
    obtain ⟨BU, Bl, Bc, Bs⟩ := B
    dsimp only [Pt.U, Pt.locs, Pt.cells, Pt.slots] at X' e1 e2 f1 f2 f3 hsteps
    subst f1; subst f2; subst f3
    exact ⟨v, _, t, BU, L, hT, X', hLL, e1, e2, hq, fun target q => hstep₁ _ (by rw [doInvoke_state]; exact hsteps.trans q)⟩
  exact z_cont hr hS (fun H1 locs1 hH1 hS1 => z_rest hm K C0 hn hH1 hS1 hL hQ)
end ZSUPER
end
section
/-! RULES: what the machine's own texts are, and the script -/
section ZTEXT
variable {G : zG} {d : Nat} {M : zM} {pc : Nat} {ls : List (Option Value)} {st : List Value} {h : zH} {R : zR}
theorem zad_K {G : zG} {k : Nat} (h : k < 5) : zad G (1000 + k) = G.2.2.2.1.1 k := by
  have h1 : ¬ 1000 + k < 1000 := by omega
  have h2 : 1000 + k < 1100 := by omega
  simp [zad, h1, h2]
theorem zad_V {G : zG} {k : Nat} (h : k < 5) : zad G (1100 + k) = G.2.2.2.1.2 k := by
  have h1 : ¬ 1100 + k < 1000 := by omega
  have h2 : ¬ 1100 + k < 1100 := by omega
  have h3 : 1100 + k < 2000 := by omega
  simp [zad, h1, h2, h3]
theorem zad_b {G : zG} : zad G 2000 = G.2.2.2.2.1 := by simp [zad]
theorem zad_q {G : zG} : zad G 3000 = G.2.2.2.2.2.2.2 := by simp [zad]
theorem zi_getC {ix : Nat} (hd : decode M.2.1 pc = .ok (.getstatic ix, 3)) (hl : Cond.fieldLink M.1.cls ix "java/lang/String" "COMPACT_STRINGS" "Z" ∈ zU) (K : zA G d M (pc + 3) ls (.int 1 :: st) h R) : zA G d M pc ls st h R := by
  intro p l e Rm s m args below meth c0 n0 s0 Q H locs LS C0 hn hH hS hL hQ
  exact va_gets C0.1 C0.2.1 C0.2.2.2.2.2.1.2.2.2.2.1 hS C0.2.2.2.1 (C0.2.2.2.2.1 _ hl) (fun _ q => q) hd (K p l e Rm s m args below meth c0 n0 s0 Q H locs LS C0 hn hH hS hL hQ)
theorem zi_getQ {ix : Nat} (hd : decode M.2.1 pc = .ok (.getstatic ix, 3)) (hl : Cond.fieldLink M.1.cls ix "jdk/internal/util/Preconditions" "SIOOBE_FORMATTER" "Ljava/util/function/BiFunction;" ∈ zU) (K0 : zA G d M (pc + 3) ls (.null :: st) h R) (K1 : zA G d M (pc + 3) ls (.ref 3000 :: st) h R) : zA G d M pc ls st h R := by
  intro p l e Rm s m args below meth c0 n0 s0 Q H locs LS C0 hn hH hS hL hQ
  rcases C0.2.2.2.2.2.1.2.2.2.2.2.1 with q | q
  · exact va_gets C0.1 C0.2.1 q hS C0.2.2.2.1 (C0.2.2.2.2.1 _ hl) (fun _ q => q) hd (K0 p l e Rm s m args below meth c0 n0 s0 Q H locs LS C0 hn hH hS hL hQ)
  · have KK := K1 p l e Rm s m args below meth c0 n0 s0 Q H locs LS C0 hn hH hS hL hQ
    rw [List.map_cons, show ztv G (.ref 3000) = .ref G.2.2.2.2.2.2.2 by rw [ztv, zad_q]] at KK
    exact va_gets C0.1 C0.2.1 q hS C0.2.2.2.1 (C0.2.2.2.2.1 _ hl) (fun _ q => q) hd KK
theorem zi_getV {ix k : Nat} (hk : k < 5) (hd : decode M.2.1 pc = .ok (.getfield ix, 3)) (hl : Cond.fieldLink M.1.cls ix "java/lang/String" "value" "[B" ∈ zU) (K : zA G d M (pc + 3) ls (.ref (1100 + k) :: st) h R) : zA G d M pc ls (.ref (1000 + k) :: st) h R := by
  intro p l e Rm s m args below meth c0 n0 s0 Q H locs LS C0 hn hH hS hL hQ
  have KK := K p l e Rm s m args below meth c0 n0 s0 Q H locs LS C0 hn hH hS hL hQ
  rw [List.map_cons, show ztv G (.ref (1100 + k)) = .ref (G.2.2.2.1.2 k) by rw [ztv, zad_V hk]] at KK
  rw [List.map_cons, show ztv G (.ref (1000 + k)) = .ref (G.2.2.2.1.1 k) by rw [ztv, zad_K hk]]
  exact vk_getf C0.1 C0.2.1 (C0.2.2.2.2.2.1.2.2.2.1.1 k hk).2.2.1 hS C0.2.2.2.1 (C0.2.2.2.2.1 _ hl) (fun _ q => q) hd KK
theorem zi_getcoder {ix k : Nat} (hk : k < 5) (hd : decode M.2.1 pc = .ok (.getfield ix, 3)) (hl : Cond.fieldLink M.1.cls ix "java/lang/String" "coder" "B" ∈ zU) (K : zA G d M (pc + 3) ls (.int 0 :: st) h R) : zA G d M pc ls (.ref (1000 + k) :: st) h R := by
  intro p l e Rm s m args below meth c0 n0 s0 Q H locs LS C0 hn hH hS hL hQ
  have KK := K p l e Rm s m args below meth c0 n0 s0 Q H locs LS C0 hn hH hS hL hQ
  rw [List.map_cons, show ztv G (.ref (1000 + k)) = .ref (G.2.2.2.1.1 k) by rw [ztv, zad_K hk]]
  exact vk_getf C0.1 C0.2.1 (C0.2.2.2.2.2.1.2.2.2.1.1 k hk).2.1 hS C0.2.2.2.1 (C0.2.2.2.2.1 _ hl) (fun _ q => q) hd KK
theorem zi_blen {k : Nat} (hk : k < 5) (hd : decode M.2.1 pc = .ok (.arraylength, 1)) (K : zA G d M (pc + 1) ls (.int (nI (zLen.getD k 0)) :: st) h R) : zA G d M pc ls (.ref (1100 + k) :: st) h R := by
  intro p l e Rm s m args below meth c0 n0 s0 Q H locs LS C0 hn hH hS hL hQ
  have KK := K p l e Rm s m args below meth c0 n0 s0 Q H locs LS C0 hn hH hS hL hQ
  rw [List.map_cons, show ztv G (.ref (1100 + k)) = .ref (G.2.2.2.1.2 k) by rw [ztv, zad_V hk]]
  exact va_tlen C0.1 C0.2.1 (C0.2.2.2.2.2.1.2.2.2.1.1 k hk).2.2.2 hS rfl hd KK
theorem zi_bload {k : Nat} {i : Int32} (hk : k < 5) (hd : decode M.2.1 pc = .ok (.baload, 1)) (hi : vp_in i (zLen.getD k 0)) (K : zA G d M (pc + 1) ls (.int ((zByt.getD k []).getD i.toNatClampNeg 0) :: st) h R) : zA G d M pc ls (.int i :: .ref (1100 + k) :: st) h R := by
  intro p l e Rm s m args below meth c0 n0 s0 Q H locs LS C0 hn hH hS hL hQ
  have KK := K p l e Rm s m args below meth c0 n0 s0 Q H locs LS C0 hn hH hS hL hQ
  rw [List.map_cons, List.map_cons, show ztv G (.ref (1100 + k)) = .ref (G.2.2.2.1.2 k) by rw [ztv, zad_V hk]]
  exact va_tb C0.1 C0.2.1 (C0.2.2.2.2.2.1.2.2.2.1.1 k hk).2.2.2 hS hi rfl hd KK
/-- a method of String on a constant -/
theorem zi_callT {ix k : Nat} {N : zM} {av stk : List Value} {R1 : zR} (hk : k < 5) (hd : decode M.2.1 pc = .ok (.invokevirtual ix, 3)) (hN : zMok N) (hl : Cond.methodLink M.1.cls ix N.1 ∈ zU) (h1 : Cond.instanceMethod N.1 ∈ zU) (h2 : Cond.selects "java/lang/String" N.1 N.1 ∈ zU) (hn1 : zar N av.length) (hstk : stk = av.reverse ++ .ref (1000 + k) :: st) (hst : (st.map fun v => v.category).sum ≤ 8) (hc : zCall d N (.ref (1000 + k) :: av) h R1) (hR : R1.2.1.1 ≤ R.2.1.1 ∧ R1.2.1.2.1 ≤ R.2.1.2.1) (K : zA G (d + 1) M (pc + 3) ls (R1.1.toList ++ st) R1.2 R) : zA G (d + 1) M pc ls stk h R := by
  intro p l e Rm s m args below meth c0 n0 s0 Q H locs LS C0 hn hH hS hL hQ
  subst hstk
  have hm := hc.1
  have hpre := z_pre (av := .ref (1000 + k) :: av) hH hS C0.2.2.2.2.2.1
  have hrc := vk_recv (i := k) C0.2.2.2.2.2.1.2.2.2.1 hk hS
  rw [← zad_K (G := G) hk] at hrc
  have hr := va_runV (C := "java/lang/String") (b := zad G (1000 + k)) (As := av.map (ztv G)) (rest := st.map (ztv G)) (n := av.length) (g := F0 m pc LS ((av.reverse ++ .ref (1000 + k) :: st).map (ztv G))) (below := below) (meth := meth) (e := e) (cells := h.1.1 - n0) (slots := h.1.2.1 - s0) (locs := locs) (H := H) ⟨C0.1, C0.2.1, C0.2.2.1, C0.2.2.2.1, C0.2.2.2.2.1⟩ (hc.2 G l) ⟨callB_of (bytes := N.2.1) (maxL := N.2.2.1) (ret := N.2.2.2) (own := M.1.cls) (index := ix) av.length C0.2.2.2.2.1 (zGood hN) rfl rfl rfl (C0.2.2.2.2.1 _ hN.2.2.1) (C0.2.2.2.2.1 _ hl) ⟨hN.2.2.2.1.1, hN.2.2.2.1.2, hn1⟩ ⟨by show d + 1 ≤ _; exact C0.2.2.2.2.2.2.2.1, by show 8 + (_ + 11) + 64 * d ≤ _; have := C0.2.2.2.2.2.2.2.2; have := hN.2.2.2.2; omega⟩, C0.2.2.2.2.1 _ h1, C0.2.2.2.2.1 _ h2⟩ ⟨hpre.1, hrc, hpre.2⟩ rfl (by simp) hL.1 (by show _ = _; rw [List.map_append, List.map_reverse]; rfl) (by rw [ztv_cats]; show 2 * 0 + _ ≤ 8; omega) hd ⟨by omega, by omega⟩
  exact z_cont hr hS (fun H1 locs1 hH1 hS1 => z_rest hm K C0 hn hH1 hS1 hL hQ)
end ZTEXT
/-! the script -/
section ZSCR
variable {G : zG} {d : Nat} {M : zM} {pc : Nat} {ls : List (Option Value)} {st : List Value} {h : zH} {R : zR}
theorem zi_sload {i : Int32} (hd : decode M.2.1 pc = .ok (.iaload, 1)) (hi : vp_in i G.2.2.2.2.2.1) (K : zA G d M (pc + 1) ls (.int (G.2.2.2.2.2.2.1 i.toNatClampNeg) :: st) h R) : zA G d M pc ls (.int i :: .ref 2000 :: st) h R := by
  intro p l e Rm s m args below meth c0 n0 s0 Q H locs LS C0 hn hH hS hL hQ
  have KK := K p l e Rm s m args below meth c0 n0 s0 Q H locs LS C0 hn hH hS hL hQ
  rw [List.map_cons, List.map_cons, show ztv G (.ref 2000) = .ref G.2.2.2.2.1 by rw [ztv, zad_b]]
  obtain ⟨-, -, -, -, -, -, k7, k8, k9⟩ := C0.2.2.2.2.2.1
  exact va_sld C0.1 C0.2.1 k7 (Nat.lt_of_lt_of_le k8 k9) (Nat.not_le.mpr k8) hS hi hd KK
theorem zi_slen (hd : decode M.2.1 pc = .ok (.arraylength, 1)) (K : zA G d M (pc + 1) ls (.int (nI G.2.2.2.2.2.1) :: st) h R) : zA G d M pc ls (.ref 2000 :: st) h R := by
  intro p l e Rm s m args below meth c0 n0 s0 Q H locs LS C0 hn hH hS hL hQ
  have KK := K p l e Rm s m args below meth c0 n0 s0 Q H locs LS C0 hn hH hS hL hQ
  rw [List.map_cons, show ztv G (.ref 2000) = .ref G.2.2.2.2.1 by rw [ztv, zad_b]]
  obtain ⟨-, -, -, -, -, -, k7, k8, k9⟩ := C0.2.2.2.2.2.1
  exact va_slen C0.1 C0.2.1 k7 (Nat.lt_of_lt_of_le k8 k9) (Nat.not_le.mpr k8) hS hd KK
end ZSCR
end
