/-! rows by program: X6_ownPace, X6_ownPace, X2_ownPace, X0_ownPace, X8_harmIn, X9_timeIn, X9_timeIn, X9_timeIn, X9_timeIn, X9_timeIn -/
set_option maxRecDepth 100000 in
theorem tX6_ownPace_a_0 {G : zG} {d b : Nat} {I : Nat → Nat → Int32} {L : Nat → Nat → Int64} {R : zR} {x1 : Int32} {x2 : Int32} {x3 : Int32} {x4 : Int32} (hR : zR0 R)
    (K : ((¬ x3 = 3 → ((¬ x3 = 1 → R = (some (.int (x1 + x2)), zh b I L)) ∧ (x3 = 1 → R = (some (.int ((x1 + x2) / 2)), zh b I L)))) ∧ (x3 = 3 → R = (some (.int (zop0 x1 x2 x3)), zh b I L)))) :
    zA G (d + 1) mX6_ownPace 0 [some (.ref 39), some (.int x1), some (.int x2), some (.int x3), some (.int x4)] [] (zh b I L) R := by
  refine zi_iload_n dX6_ownPace_0 rfl rfl ?_
  refine zi_iconst (v := 3) dX6_ownPace_1 (by decide) ?_
  refine zi_icmp_ne (tgt := 15) dX6_ownPace_2 (by decide) (fun c1 => ?_) (fun c1 => ?_)
  · have K := K.1 c1
    refine zi_iload_n dX6_ownPace_15 rfl rfl ?_
    refine zi_iconst (v := 1) dX6_ownPace_16 (by decide) ?_
    refine zi_icmp_ne (tgt := 28) dX6_ownPace_17 (by decide) (fun c2 => ?_) (fun c2 => ?_)
    · have K := K.1 c2
      refine zi_iload_n dX6_ownPace_28 rfl rfl ?_
      refine zi_iload_n dX6_ownPace_29 rfl rfl ?_
      refine zi_iadd dX6_ownPace_30 ?_
      subst K
      exact zi_ireturn dX6_ownPace_31 rfl rfl
    · have K := K.2 c2
      refine zi_iload_n dX6_ownPace_20 rfl rfl ?_
      refine zi_iload_n dX6_ownPace_21 rfl rfl ?_
      refine zi_iadd dX6_ownPace_22 ?_
      refine zi_iconst (v := 2) dX6_ownPace_23 (by decide) ?_
      refine zi_idiv dX6_ownPace_24 (by decide) ?_
      refine zi_goto (tgt := 31) dX6_ownPace_25 (by decide) ?_
      subst K
      exact zi_ireturn dX6_ownPace_31 rfl rfl
  · have K := K.2 c1
    refine zi_aload_n dX6_ownPace_5 rfl rfl ?_
    refine zi_iload_n dX6_ownPace_6 rfl rfl ?_
    refine zi_iload_n dX6_ownPace_7 rfl rfl ?_
    refine zi_iload_n dX6_ownPace_8 rfl rfl ?_
    refine zi_iload dX6_ownPace_9 rfl ?_
    refine zi_callSU (N := mX9_ownPace) (av := [.int x1, .int x2, .int x3, .int x4]) (st := []) (R1 := (some (.int (zop0 x1 x2 x3)), zh b I L)) dX6_ownPace_11 okX9_ownPace u_505 u_490 u_127 u_488 (by decide) zc6 (rfl) (Nat.le_of_ble_eq_true rfl) arX9_ownPace rfl (Nat.le_of_ble_eq_true rfl) (kX9_ownPace _ _ _ _ _) hR ?_
    show zA G (d + 1) mX6_ownPace 14 [some (.ref 39), some (.int x1), some (.int x2), some (.int x3), some (.int x4)] [.int (zop0 x1 x2 x3)] (zh b I L) R
    subst K
    exact zi_ireturn dX6_ownPace_14 rfl rfl
set_option maxRecDepth 100000 in
theorem tX6_ownPace_b_0 {G : zG} {d b : Nat} {I : Nat → Nat → Int32} {L : Nat → Nat → Int64} {R : zR} {x1 : Int32} {x2 : Int32} {x3 : Int32} {x4 : Int32} (hR : zR0 R)
    (K : ((¬ x3 = 3 → ((¬ x3 = 1 → R = (some (.int (x1 + x2)), zh b I L)) ∧ (x3 = 1 → R = (some (.int ((x1 + x2) / 2)), zh b I L)))) ∧ (x3 = 3 → R = (some (.int (zop0 x1 x2 x3)), zh b I L)))) :
    zA G (d + 1) mX6_ownPace 0 [some (.ref 40), some (.int x1), some (.int x2), some (.int x3), some (.int x4)] [] (zh b I L) R := by
  refine zi_iload_n dX6_ownPace_0 rfl rfl ?_
  refine zi_iconst (v := 3) dX6_ownPace_1 (by decide) ?_
  refine zi_icmp_ne (tgt := 15) dX6_ownPace_2 (by decide) (fun c1 => ?_) (fun c1 => ?_)
  · have K := K.1 c1
    refine zi_iload_n dX6_ownPace_15 rfl rfl ?_
    refine zi_iconst (v := 1) dX6_ownPace_16 (by decide) ?_
    refine zi_icmp_ne (tgt := 28) dX6_ownPace_17 (by decide) (fun c2 => ?_) (fun c2 => ?_)
    · have K := K.1 c2
      refine zi_iload_n dX6_ownPace_28 rfl rfl ?_
      refine zi_iload_n dX6_ownPace_29 rfl rfl ?_
      refine zi_iadd dX6_ownPace_30 ?_
      subst K
      exact zi_ireturn dX6_ownPace_31 rfl rfl
    · have K := K.2 c2
      refine zi_iload_n dX6_ownPace_20 rfl rfl ?_
      refine zi_iload_n dX6_ownPace_21 rfl rfl ?_
      refine zi_iadd dX6_ownPace_22 ?_
      refine zi_iconst (v := 2) dX6_ownPace_23 (by decide) ?_
      refine zi_idiv dX6_ownPace_24 (by decide) ?_
      refine zi_goto (tgt := 31) dX6_ownPace_25 (by decide) ?_
      subst K
      exact zi_ireturn dX6_ownPace_31 rfl rfl
  · have K := K.2 c1
    refine zi_aload_n dX6_ownPace_5 rfl rfl ?_
    refine zi_iload_n dX6_ownPace_6 rfl rfl ?_
    refine zi_iload_n dX6_ownPace_7 rfl rfl ?_
    refine zi_iload_n dX6_ownPace_8 rfl rfl ?_
    refine zi_iload dX6_ownPace_9 rfl ?_
    refine zi_callSU (N := mX9_ownPace) (av := [.int x1, .int x2, .int x3, .int x4]) (st := []) (R1 := (some (.int (zop0 x1 x2 x3)), zh b I L)) dX6_ownPace_11 okX9_ownPace u_505 u_490 u_127 u_488 (by decide) zc8 (rfl) (Nat.le_of_ble_eq_true rfl) arX9_ownPace rfl (Nat.le_of_ble_eq_true rfl) (kX9_ownPace _ _ _ _ _) hR ?_
    show zA G (d + 1) mX6_ownPace 14 [some (.ref 40), some (.int x1), some (.int x2), some (.int x3), some (.int x4)] [.int (zop0 x1 x2 x3)] (zh b I L) R
    subst K
    exact zi_ireturn dX6_ownPace_14 rfl rfl
set_option maxRecDepth 100000 in
theorem tX2_ownPace_0 {G : zG} {d b : Nat} {I : Nat → Nat → Int32} {L : Nat → Nat → Int64} {R : zR} {x1 : Int32} {x2 : Int32} {x3 : Int32} {x4 : Int32} (hR : zR0 R)
    (K : R = (some (.int (if (zop0 x1 x2 x3) < 4 then (zop0 x1 x2 x3) else 4)), zh b I L)) :
    zA G (d + 1) mX2_ownPace 0 [some (.ref 41), some (.int x1), some (.int x2), some (.int x3), some (.int x4)] [] (zh b I L) R := by
  refine zi_iconst (v := 4) dX2_ownPace_0 (by decide) ?_
  refine zi_aload_n dX2_ownPace_1 rfl rfl ?_
  refine zi_iload_n dX2_ownPace_2 rfl rfl ?_
  refine zi_iload_n dX2_ownPace_3 rfl rfl ?_
  refine zi_iload_n dX2_ownPace_4 rfl rfl ?_
  refine zi_iload dX2_ownPace_5 rfl ?_
  refine zi_callSU (N := mX9_ownPace) (av := [.int x1, .int x2, .int x3, .int x4]) (st := [.int 4]) (R1 := (some (.int (zop0 x1 x2 x3)), zh b I L)) dX2_ownPace_7 okX9_ownPace u_498 u_490 u_141 u_488 (by decide) zc2 (rfl) (Nat.le_of_ble_eq_true rfl) arX9_ownPace rfl (Nat.le_of_ble_eq_true rfl) (kX9_ownPace _ _ _ _ _) hR ?_
  show zA G (d + 1) mX2_ownPace 10 [some (.ref 41), some (.int x1), some (.int x2), some (.int x3), some (.int x4)] [.int (zop0 x1 x2 x3), .int 4] (zh b I L) R
  refine zg_min dX2_ownPace_10 u_499 (Nat.le_of_ble_eq_true rfl) hR ?_
  subst K
  exact zi_ireturn dX2_ownPace_13 rfl rfl
set_option maxRecDepth 100000 in
theorem tX0_ownPace_0 {G : zG} {d b : Nat} {I : Nat → Nat → Int32} {L : Nat → Nat → Int64} {R : zR} {x1 : Int32} {x2 : Int32} {x3 : Int32} {x4 : Int32} (hR : zR0 R)
    (K : ((¬ (zrem x4 2) = 0 → ((¬ x3 = 3 → R = (some (.int (x1 + x2)), zh b I L)) ∧ (x3 = 3 → R = (some (.int 0), zh b I L)))) ∧ ((zrem x4 2) = 0 → R = (some (.int (zop0 x1 x2 x3)), zh b I L)))) :
    zA G (d + 1) mX0_ownPace 0 [some (.ref 42), some (.int x1), some (.int x2), some (.int x3), some (.int x4)] [] (zh b I L) R := by
  refine zi_iload dX0_ownPace_0 rfl ?_
  refine zi_iconst (v := 2) dX0_ownPace_2 (by decide) ?_
  refine zi_irem dX0_ownPace_3 (by decide) ?_
  refine zi_if_ne (tgt := 17) dX0_ownPace_4 (by decide) (fun c1 => ?_) (fun c1 => ?_)
  · have K := K.1 c1
    refine zi_iload_n dX0_ownPace_17 rfl rfl ?_
    refine zi_iconst (v := 3) dX0_ownPace_18 (by decide) ?_
    refine zi_icmp_ne (tgt := 26) dX0_ownPace_19 (by decide) (fun c2 => ?_) (fun c2 => ?_)
    · have K := K.1 c2
      refine zi_iload_n dX0_ownPace_26 rfl rfl ?_
      refine zi_iload_n dX0_ownPace_27 rfl rfl ?_
      refine zi_iadd dX0_ownPace_28 ?_
      subst K
      exact zi_ireturn dX0_ownPace_29 rfl rfl
    · have K := K.2 c2
      refine zi_iconst (v := 0) dX0_ownPace_22 (by decide) ?_
      refine zi_goto (tgt := 29) dX0_ownPace_23 (by decide) ?_
      subst K
      exact zi_ireturn dX0_ownPace_29 rfl rfl
  · have K := K.2 c1
    refine zi_aload_n dX0_ownPace_7 rfl rfl ?_
    refine zi_iload_n dX0_ownPace_8 rfl rfl ?_
    refine zi_iload_n dX0_ownPace_9 rfl rfl ?_
    refine zi_iload_n dX0_ownPace_10 rfl rfl ?_
    refine zi_iload dX0_ownPace_11 rfl ?_
    refine zi_callSU (N := mX9_ownPace) (av := [.int x1, .int x2, .int x3, .int x4]) (st := []) (R1 := (some (.int (zop0 x1 x2 x3)), zh b I L)) dX0_ownPace_13 okX9_ownPace u_494 u_490 u_148 u_488 (by decide) zc0 (rfl) (Nat.le_of_ble_eq_true rfl) arX9_ownPace rfl (Nat.le_of_ble_eq_true rfl) (kX9_ownPace _ _ _ _ _) hR ?_
    show zA G (d + 1) mX0_ownPace 16 [some (.ref 42), some (.int x1), some (.int x2), some (.int x3), some (.int x4)] [.int (zop0 x1 x2 x3)] (zh b I L) R
    subst K
    exact zi_ireturn dX0_ownPace_16 rfl rfl
set_option maxRecDepth 100000 in
theorem tX8_harmIn_0 {G : zG} {d b : Nat} {I : Nat → Nat → Int32} {L : Nat → Nat → Int64} {R : zR} {x1 : Int32} {x2 : Int32} {x3 : Int32} (hR : zR0 R)
    (K : R = (some (.int ((zhm0 (zfelt x1) x2 x3) + 1)), zh b I L)) :
    zA G (d + 1) mX8_harmIn 0 [some (.ref 40), some (.int x1), some (.int x2), some (.int x3)] [] (zh b I L) R := by
  refine zi_aload_n dX8_harmIn_0 rfl rfl ?_
  refine zi_iload_n dX8_harmIn_1 rfl rfl ?_
  refine zi_callS (N := mX8_felt) (av := [.int x1]) (st := [.ref 40]) (R1 := (some (.int (zfelt x1)), zh b I L)) dX8_harmIn_2 okX8_felt u_509 u_510 arX8_felt rfl (Nat.le_of_ble_eq_true rfl) (kX8_felt _) hR ?_
  show zA G (d + 1) mX8_harmIn 5 [some (.ref 40), some (.int x1), some (.int x2), some (.int x3)] [.int (zfelt x1), .ref 40] (zh b I L) R
  refine zi_iload_n dX8_harmIn_5 rfl rfl ?_
  refine zi_iload_n dX8_harmIn_6 rfl rfl ?_
  refine zi_callSX (x := ⟨"CheeseHill$Slider", "harmIn", "(III)I"⟩) (N := mX9_harmIn) (av := [.int (zfelt x1), .int x2, .int x3]) (st := []) (R1 := (some (.int (zhm0 (zfelt x1) x2 x3)), zh b I L)) dX8_harmIn_7 okX9_harmIn u_528 u_529 u_134 u_127 u_519 (by decide) rfl zc8 (rfl) (Nat.le_of_ble_eq_true rfl) arX9_harmIn rfl (Nat.le_of_ble_eq_true rfl) (kX9_harmIn _ _ _ _) hR ?_
  show zA G (d + 1) mX8_harmIn 10 [some (.ref 40), some (.int x1), some (.int x2), some (.int x3)] [.int (zhm0 (zfelt x1) x2 x3)] (zh b I L) R
  refine zi_iconst (v := 1) dX8_harmIn_10 (by decide) ?_
  refine zi_iadd dX8_harmIn_11 ?_
  subst K
  exact zi_ireturn dX8_harmIn_12 rfl rfl
set_option maxRecDepth 100000 in
theorem tX9_timeIn_k0_0 {G : zG} {d b : Nat} {I : Nat → Nat → Int32} {L : Nat → Nat → Int64} {R : zR} {x1 : Int32} {x2 : Int32} (hR : zR0 R)
    (K : ((¬ x1 = 2 → R = (some (.int ((30 - x2) + 0)), zh b I L)) ∧ (x1 = 2 → R = (some (.int ((30 - x2) + 5)), zh b I L)))) :
    zA G (d + 1) mX9_timeIn 0 [some (.ref 38), some (.int x1), some (.int x2)] [] (zh b I L) R := by
  refine zi_bipush (v := 30) dX9_timeIn_0 (by decide) ?_
  refine zi_iload_n dX9_timeIn_2 rfl rfl ?_
  refine zi_isub dX9_timeIn_3 ?_
  refine zi_iload_n dX9_timeIn_4 rfl rfl ?_
  refine zi_iconst (v := 2) dX9_timeIn_5 (by decide) ?_
  refine zi_icmp_ne (tgt := 16) dX9_timeIn_6 (by decide) (fun c1 => ?_) (fun c1 => ?_)
  · have K := K.1 c1
    refine zi_iconst (v := 0) dX9_timeIn_16 (by decide) ?_
    refine zi_iadd dX9_timeIn_17 ?_
    subst K
    exact zi_ireturn dX9_timeIn_18 rfl rfl
  · have K := K.2 c1
    refine zi_aload_n dX9_timeIn_9 rfl rfl ?_
    refine zi_callU (owner := "CheeseHill$Upright") (x := yX9_delayInNettles) (N := mX9_delayInNettles) (N0 := mX9_delayInNettles) (av := []) (st := [.int (30 - x2)]) (R1 := (some (.int 5), zh b I L)) dX9_timeIn_10 okX9_delayInNettles u_541 u_544 u_543 u_542 u_542 u_551 rfl ⟨by decide, by decide⟩ zc9 (rfl) (Nat.le_of_ble_eq_true rfl) arX9_delayInNettles rfl (Nat.le_of_ble_eq_true rfl) (kX9_delayInNettles _) hR ?_
    show zA G (d + 1) mX9_timeIn 13 [some (.ref 38), some (.int x1), some (.int x2)] [.int 5, .int (30 - x2)] (zh b I L) R
    refine zi_goto (tgt := 17) dX9_timeIn_13 (by decide) ?_
    refine zi_iadd dX9_timeIn_17 ?_
    subst K
    exact zi_ireturn dX9_timeIn_18 rfl rfl
set_option maxRecDepth 100000 in
theorem tX9_timeIn_k1_0 {G : zG} {d b : Nat} {I : Nat → Nat → Int32} {L : Nat → Nat → Int64} {R : zR} {x1 : Int32} {x2 : Int32} (hR : zR0 R)
    (K : ((¬ x1 = 2 → R = (some (.int ((30 - x2) + 0)), zh b I L)) ∧ (x1 = 2 → R = (some (.int ((30 - x2) + 5)), zh b I L)))) :
    zA G (d + 1) mX9_timeIn 0 [some (.ref 39), some (.int x1), some (.int x2)] [] (zh b I L) R := by
  refine zi_bipush (v := 30) dX9_timeIn_0 (by decide) ?_
  refine zi_iload_n dX9_timeIn_2 rfl rfl ?_
  refine zi_isub dX9_timeIn_3 ?_
  refine zi_iload_n dX9_timeIn_4 rfl rfl ?_
  refine zi_iconst (v := 2) dX9_timeIn_5 (by decide) ?_
  refine zi_icmp_ne (tgt := 16) dX9_timeIn_6 (by decide) (fun c1 => ?_) (fun c1 => ?_)
  · have K := K.1 c1
    refine zi_iconst (v := 0) dX9_timeIn_16 (by decide) ?_
    refine zi_iadd dX9_timeIn_17 ?_
    subst K
    exact zi_ireturn dX9_timeIn_18 rfl rfl
  · have K := K.2 c1
    refine zi_aload_n dX9_timeIn_9 rfl rfl ?_
    refine zi_callU (owner := "CheeseHill$Upright") (x := yX9_delayInNettles) (N := mX9_delayInNettles) (N0 := mX9_delayInNettles) (av := []) (st := [.int (30 - x2)]) (R1 := (some (.int 5), zh b I L)) dX9_timeIn_10 okX9_delayInNettles u_541 u_544 u_547 u_542 u_542 u_551 rfl ⟨by decide, by decide⟩ zc6 (rfl) (Nat.le_of_ble_eq_true rfl) arX9_delayInNettles rfl (Nat.le_of_ble_eq_true rfl) (kX9_delayInNettles _) hR ?_
    show zA G (d + 1) mX9_timeIn 13 [some (.ref 39), some (.int x1), some (.int x2)] [.int 5, .int (30 - x2)] (zh b I L) R
    refine zi_goto (tgt := 17) dX9_timeIn_13 (by decide) ?_
    refine zi_iadd dX9_timeIn_17 ?_
    subst K
    exact zi_ireturn dX9_timeIn_18 rfl rfl
set_option maxRecDepth 100000 in
theorem tX9_timeIn_k2_0 {G : zG} {d b : Nat} {I : Nat → Nat → Int32} {L : Nat → Nat → Int64} {R : zR} {x1 : Int32} {x2 : Int32} (hR : zR0 R)
    (K : ((¬ x1 = 2 → R = (some (.int ((30 - x2) + 0)), zh b I L)) ∧ (x1 = 2 → R = (some (.int ((30 - x2) + 0)), zh b I L)))) :
    zA G (d + 1) mX9_timeIn 0 [some (.ref 40), some (.int x1), some (.int x2)] [] (zh b I L) R := by
  refine zi_bipush (v := 30) dX9_timeIn_0 (by decide) ?_
  refine zi_iload_n dX9_timeIn_2 rfl rfl ?_
  refine zi_isub dX9_timeIn_3 ?_
  refine zi_iload_n dX9_timeIn_4 rfl rfl ?_
  refine zi_iconst (v := 2) dX9_timeIn_5 (by decide) ?_
  refine zi_icmp_ne (tgt := 16) dX9_timeIn_6 (by decide) (fun c1 => ?_) (fun c1 => ?_)
  · have K := K.1 c1
    refine zi_iconst (v := 0) dX9_timeIn_16 (by decide) ?_
    refine zi_iadd dX9_timeIn_17 ?_
    subst K
    exact zi_ireturn dX9_timeIn_18 rfl rfl
  · have K := K.2 c1
    refine zi_aload_n dX9_timeIn_9 rfl rfl ?_
    refine zi_callU (owner := "CheeseHill$Upright") (x := yX9_delayInNettles) (N := mX8_delayInNettles) (N0 := mX9_delayInNettles) (av := []) (st := [.int (30 - x2)]) (R1 := (some (.int 0), zh b I L)) dX9_timeIn_10 okX8_delayInNettles u_541 u_544 u_548 u_549 u_542 u_551 rfl ⟨by decide, by decide⟩ zc8 (rfl) (Nat.le_of_ble_eq_true rfl) arX9_delayInNettles rfl (Nat.le_of_ble_eq_true rfl) (kX8_delayInNettles _) hR ?_
    show zA G (d + 1) mX9_timeIn 13 [some (.ref 40), some (.int x1), some (.int x2)] [.int 0, .int (30 - x2)] (zh b I L) R
    refine zi_goto (tgt := 17) dX9_timeIn_13 (by decide) ?_
    refine zi_iadd dX9_timeIn_17 ?_
    subst K
    exact zi_ireturn dX9_timeIn_18 rfl rfl
set_option maxRecDepth 100000 in
theorem tX9_timeIn_k3_0 {G : zG} {d b : Nat} {I : Nat → Nat → Int32} {L : Nat → Nat → Int64} {R : zR} {x1 : Int32} {x2 : Int32} (hR : zR0 R)
    (K : ((¬ x1 = 2 → R = (some (.int ((30 - x2) + 0)), zh b I L)) ∧ (x1 = 2 → R = (some (.int ((30 - x2) + 5)), zh b I L)))) :
    zA G (d + 1) mX9_timeIn 0 [some (.ref 41), some (.int x1), some (.int x2)] [] (zh b I L) R := by
  refine zi_bipush (v := 30) dX9_timeIn_0 (by decide) ?_
  refine zi_iload_n dX9_timeIn_2 rfl rfl ?_
  refine zi_isub dX9_timeIn_3 ?_
  refine zi_iload_n dX9_timeIn_4 rfl rfl ?_
  refine zi_iconst (v := 2) dX9_timeIn_5 (by decide) ?_
  refine zi_icmp_ne (tgt := 16) dX9_timeIn_6 (by decide) (fun c1 => ?_) (fun c1 => ?_)
  · have K := K.1 c1
    refine zi_iconst (v := 0) dX9_timeIn_16 (by decide) ?_
    refine zi_iadd dX9_timeIn_17 ?_
    subst K
    exact zi_ireturn dX9_timeIn_18 rfl rfl
  · have K := K.2 c1
    refine zi_aload_n dX9_timeIn_9 rfl rfl ?_
    refine zi_callU (owner := "CheeseHill$Upright") (x := yX9_delayInNettles) (N := mX9_delayInNettles) (N0 := mX9_delayInNettles) (av := []) (st := [.int (30 - x2)]) (R1 := (some (.int 5), zh b I L)) dX9_timeIn_10 okX9_delayInNettles u_541 u_544 u_546 u_542 u_542 u_551 rfl ⟨by decide, by decide⟩ zc2 (rfl) (Nat.le_of_ble_eq_true rfl) arX9_delayInNettles rfl (Nat.le_of_ble_eq_true rfl) (kX9_delayInNettles _) hR ?_
    show zA G (d + 1) mX9_timeIn 13 [some (.ref 41), some (.int x1), some (.int x2)] [.int 5, .int (30 - x2)] (zh b I L) R
    refine zi_goto (tgt := 17) dX9_timeIn_13 (by decide) ?_
    refine zi_iadd dX9_timeIn_17 ?_
    subst K
    exact zi_ireturn dX9_timeIn_18 rfl rfl
set_option maxRecDepth 100000 in
theorem tX9_timeIn_k4_0 {G : zG} {d b : Nat} {I : Nat → Nat → Int32} {L : Nat → Nat → Int64} {R : zR} {x1 : Int32} {x2 : Int32} (hR : zR0 R)
    (K : ((¬ x1 = 2 → R = (some (.int ((30 - x2) + 0)), zh b I L)) ∧ (x1 = 2 → R = (some (.int ((30 - x2) + 5)), zh b I L)))) :
    zA G (d + 1) mX9_timeIn 0 [some (.ref 42), some (.int x1), some (.int x2)] [] (zh b I L) R := by
  refine zi_bipush (v := 30) dX9_timeIn_0 (by decide) ?_
  refine zi_iload_n dX9_timeIn_2 rfl rfl ?_
  refine zi_isub dX9_timeIn_3 ?_
  refine zi_iload_n dX9_timeIn_4 rfl rfl ?_
  refine zi_iconst (v := 2) dX9_timeIn_5 (by decide) ?_
  refine zi_icmp_ne (tgt := 16) dX9_timeIn_6 (by decide) (fun c1 => ?_) (fun c1 => ?_)
  · have K := K.1 c1
    refine zi_iconst (v := 0) dX9_timeIn_16 (by decide) ?_
    refine zi_iadd dX9_timeIn_17 ?_
    subst K
    exact zi_ireturn dX9_timeIn_18 rfl rfl
  · have K := K.2 c1
    refine zi_aload_n dX9_timeIn_9 rfl rfl ?_
    refine zi_callU (owner := "CheeseHill$Upright") (x := yX9_delayInNettles) (N := mX9_delayInNettles) (N0 := mX9_delayInNettles) (av := []) (st := [.int (30 - x2)]) (R1 := (some (.int 5), zh b I L)) dX9_timeIn_10 okX9_delayInNettles u_541 u_544 u_545 u_542 u_542 u_551 rfl ⟨by decide, by decide⟩ zc0 (rfl) (Nat.le_of_ble_eq_true rfl) arX9_delayInNettles rfl (Nat.le_of_ble_eq_true rfl) (kX9_delayInNettles _) hR ?_
    show zA G (d + 1) mX9_timeIn 13 [some (.ref 42), some (.int x1), some (.int x2)] [.int 5, .int (30 - x2)] (zh b I L) R
    refine zi_goto (tgt := 17) dX9_timeIn_13 (by decide) ?_
    refine zi_iadd dX9_timeIn_17 ?_
    subst K
    exact zi_ireturn dX9_timeIn_18 rfl rfl
