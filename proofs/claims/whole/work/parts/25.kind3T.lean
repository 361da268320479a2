/-! rows by program: X9_newPace, X9_newPace, X9_newPace, X9_newPace, X9_newPace -/
set_option maxRecDepth 100000 in
theorem tX9_newPace_k0_0 {G : zG} {d b : Nat} {I : Nat → Nat → Int32} {L : Nat → Nat → Int64} {R : zR} {x1 : Int32} {x2 : Int32} {x3 : Int32} {x4 : Int32} (hR : zR0 R)
    (K : R = (some (.int (if (zop0 x1 x2 x3) < 20 then (zop0 x1 x2 x3) else 20)), zh b I L)) :
    zA G (d + 3) mX9_newPace 0 [some (.ref 38), some (.int x1), some (.int x2), some (.int x3), some (.int x4)] [] (zh b I L) R := by
  refine zi_bipush (v := 20) dX9_newPace_0 (by decide) ?_
  refine zi_aload_n dX9_newPace_2 rfl rfl ?_
  refine zi_iload_n dX9_newPace_3 rfl rfl ?_
  refine zi_iload_n dX9_newPace_4 rfl rfl ?_
  refine zi_iload_n dX9_newPace_5 rfl rfl ?_
  refine zi_iload dX9_newPace_6 rfl ?_
  refine zi_callU (owner := "CheeseHill$Upright") (x := yX9_ownPace) (N := mX9_ownPace) (N0 := mX9_ownPace) (av := [.int x1, .int x2, .int x3, .int x4]) (st := [.int 20]) (R1 := (some (.int (zop0 x1 x2 x3)), zh b I L)) dX9_newPace_8 okX9_ownPace u_487 u_490 u_489 u_488 u_488 u_513 rfl ⟨by decide, by decide⟩ zc9 (rfl) (Nat.le_of_ble_eq_true rfl) arX9_ownPace rfl (Nat.le_of_ble_eq_true rfl) (kX9_ownPace _ _ _ _ _) hR ?_
  show zA G (d + 3) mX9_newPace 11 [some (.ref 38), some (.int x1), some (.int x2), some (.int x3), some (.int x4)] [.int (zop0 x1 x2 x3), .int 20] (zh b I L) R
  refine zg_min dX9_newPace_11 u_514 (Nat.le_of_ble_eq_true rfl) hR ?_
  subst K
  exact zi_ireturn dX9_newPace_14 rfl rfl
set_option maxRecDepth 100000 in
theorem tX9_newPace_k1_0 {G : zG} {d b : Nat} {I : Nat → Nat → Int32} {L : Nat → Nat → Int64} {R : zR} {x1 : Int32} {x2 : Int32} {x3 : Int32} {x4 : Int32} (hR : zR0 R)
    (K : R = (some (.int (if (zop1 x1 x2 x3) < 20 then (zop1 x1 x2 x3) else 20)), zh b I L)) :
    zA G (d + 3) mX9_newPace 0 [some (.ref 39), some (.int x1), some (.int x2), some (.int x3), some (.int x4)] [] (zh b I L) R := by
  refine zi_bipush (v := 20) dX9_newPace_0 (by decide) ?_
  refine zi_aload_n dX9_newPace_2 rfl rfl ?_
  refine zi_iload_n dX9_newPace_3 rfl rfl ?_
  refine zi_iload_n dX9_newPace_4 rfl rfl ?_
  refine zi_iload_n dX9_newPace_5 rfl rfl ?_
  refine zi_iload dX9_newPace_6 rfl ?_
  refine zi_callU (owner := "CheeseHill$Upright") (x := yX9_ownPace) (N := mX6_ownPace) (N0 := mX9_ownPace) (av := [.int x1, .int x2, .int x3, .int x4]) (st := [.int 20]) (R1 := (some (.int (zop1 x1 x2 x3)), zh b I L)) dX9_newPace_8 okX6_ownPace u_487 u_490 u_502 u_503 u_488 u_513 rfl ⟨by decide, by decide⟩ zc6 (rfl) (Nat.le_of_ble_eq_true rfl) arX9_ownPace rfl (Nat.le_of_ble_eq_true rfl) (kX6_ownPace_a _ _ _ _) hR ?_
  show zA G (d + 3) mX9_newPace 11 [some (.ref 39), some (.int x1), some (.int x2), some (.int x3), some (.int x4)] [.int (zop1 x1 x2 x3), .int 20] (zh b I L) R
  refine zg_min dX9_newPace_11 u_514 (Nat.le_of_ble_eq_true rfl) hR ?_
  subst K
  exact zi_ireturn dX9_newPace_14 rfl rfl
set_option maxRecDepth 100000 in
theorem tX9_newPace_k2_0 {G : zG} {d b : Nat} {I : Nat → Nat → Int32} {L : Nat → Nat → Int64} {R : zR} {x1 : Int32} {x2 : Int32} {x3 : Int32} {x4 : Int32} (hR : zR0 R)
    (K : R = (some (.int (if (zop2 x1 x2 x3) < 20 then (zop2 x1 x2 x3) else 20)), zh b I L)) :
    zA G (d + 3) mX9_newPace 0 [some (.ref 40), some (.int x1), some (.int x2), some (.int x3), some (.int x4)] [] (zh b I L) R := by
  refine zi_bipush (v := 20) dX9_newPace_0 (by decide) ?_
  refine zi_aload_n dX9_newPace_2 rfl rfl ?_
  refine zi_iload_n dX9_newPace_3 rfl rfl ?_
  refine zi_iload_n dX9_newPace_4 rfl rfl ?_
  refine zi_iload_n dX9_newPace_5 rfl rfl ?_
  refine zi_iload dX9_newPace_6 rfl ?_
  refine zi_callU (owner := "CheeseHill$Upright") (x := yX9_ownPace) (N := mX8_ownPace) (N0 := mX9_ownPace) (av := [.int x1, .int x2, .int x3, .int x4]) (st := [.int 20]) (R1 := (some (.int (zop2 x1 x2 x3)), zh b I L)) dX9_newPace_8 okX8_ownPace u_487 u_490 u_506 u_507 u_488 u_513 rfl ⟨by decide, by decide⟩ zc8 (rfl) (Nat.le_of_ble_eq_true rfl) arX9_ownPace rfl (Nat.le_of_ble_eq_true rfl) (kX8_ownPace _ _ _ _) hR ?_
  show zA G (d + 3) mX9_newPace 11 [some (.ref 40), some (.int x1), some (.int x2), some (.int x3), some (.int x4)] [.int (zop2 x1 x2 x3), .int 20] (zh b I L) R
  refine zg_min dX9_newPace_11 u_514 (Nat.le_of_ble_eq_true rfl) hR ?_
  subst K
  exact zi_ireturn dX9_newPace_14 rfl rfl
set_option maxRecDepth 100000 in
theorem tX9_newPace_k3_0 {G : zG} {d b : Nat} {I : Nat → Nat → Int32} {L : Nat → Nat → Int64} {R : zR} {x1 : Int32} {x2 : Int32} {x3 : Int32} {x4 : Int32} (hR : zR0 R)
    (K : R = (some (.int (if (zop3 x1 x2 x3) < 20 then (zop3 x1 x2 x3) else 20)), zh b I L)) :
    zA G (d + 3) mX9_newPace 0 [some (.ref 41), some (.int x1), some (.int x2), some (.int x3), some (.int x4)] [] (zh b I L) R := by
  refine zi_bipush (v := 20) dX9_newPace_0 (by decide) ?_
  refine zi_aload_n dX9_newPace_2 rfl rfl ?_
  refine zi_iload_n dX9_newPace_3 rfl rfl ?_
  refine zi_iload_n dX9_newPace_4 rfl rfl ?_
  refine zi_iload_n dX9_newPace_5 rfl rfl ?_
  refine zi_iload dX9_newPace_6 rfl ?_
  refine zi_callU (owner := "CheeseHill$Upright") (x := yX9_ownPace) (N := mX2_ownPace) (N0 := mX9_ownPace) (av := [.int x1, .int x2, .int x3, .int x4]) (st := [.int 20]) (R1 := (some (.int (zop3 x1 x2 x3)), zh b I L)) dX9_newPace_8 okX2_ownPace u_487 u_490 u_495 u_496 u_488 u_513 rfl ⟨by decide, by decide⟩ zc2 (rfl) (Nat.le_of_ble_eq_true rfl) arX9_ownPace rfl (Nat.le_of_ble_eq_true rfl) (kX2_ownPace _ _ _ _) hR ?_
  show zA G (d + 3) mX9_newPace 11 [some (.ref 41), some (.int x1), some (.int x2), some (.int x3), some (.int x4)] [.int (zop3 x1 x2 x3), .int 20] (zh b I L) R
  refine zg_min dX9_newPace_11 u_514 (Nat.le_of_ble_eq_true rfl) hR ?_
  subst K
  exact zi_ireturn dX9_newPace_14 rfl rfl
set_option maxRecDepth 100000 in
theorem tX9_newPace_k4_0 {G : zG} {d b : Nat} {I : Nat → Nat → Int32} {L : Nat → Nat → Int64} {R : zR} {x1 : Int32} {x2 : Int32} {x3 : Int32} {x4 : Int32} (hR : zR0 R)
    (K : R = (some (.int (if (zop4 x1 x2 x3 x4) < 20 then (zop4 x1 x2 x3 x4) else 20)), zh b I L)) :
    zA G (d + 3) mX9_newPace 0 [some (.ref 42), some (.int x1), some (.int x2), some (.int x3), some (.int x4)] [] (zh b I L) R := by
  refine zi_bipush (v := 20) dX9_newPace_0 (by decide) ?_
  refine zi_aload_n dX9_newPace_2 rfl rfl ?_
  refine zi_iload_n dX9_newPace_3 rfl rfl ?_
  refine zi_iload_n dX9_newPace_4 rfl rfl ?_
  refine zi_iload_n dX9_newPace_5 rfl rfl ?_
  refine zi_iload dX9_newPace_6 rfl ?_
  refine zi_callU (owner := "CheeseHill$Upright") (x := yX9_ownPace) (N := mX0_ownPace) (N0 := mX9_ownPace) (av := [.int x1, .int x2, .int x3, .int x4]) (st := [.int 20]) (R1 := (some (.int (zop4 x1 x2 x3 x4)), zh b I L)) dX9_newPace_8 okX0_ownPace u_487 u_490 u_491 u_492 u_488 u_513 rfl ⟨by decide, by decide⟩ zc0 (rfl) (Nat.le_of_ble_eq_true rfl) arX9_ownPace rfl (Nat.le_of_ble_eq_true rfl) (kX0_ownPace _ _ _ _) hR ?_
  show zA G (d + 3) mX9_newPace 11 [some (.ref 42), some (.int x1), some (.int x2), some (.int x3), some (.int x4)] [.int (zop4 x1 x2 x3 x4), .int 20] (zh b I L) R
  refine zg_min dX9_newPace_11 u_514 (Nat.le_of_ble_eq_true rfl) hR ?_
  subst K
  exact zi_ireturn dX9_newPace_14 rfl rfl
