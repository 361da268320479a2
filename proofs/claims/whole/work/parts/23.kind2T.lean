/-! rows by program: X8_ownPace -/
set_option maxRecDepth 100000 in
theorem tX8_ownPace_0 {G : zG} {d b : Nat} {I : Nat → Nat → Int32} {L : Nat → Nat → Int64} {R : zR} {x1 : Int32} {x2 : Int32} {x3 : Int32} {x4 : Int32} (hR : zR0 R)
    (K : R = (some (.int ((zop1 x1 x2 (zfelt x3)) + 2)), zh b I L)) :
    zA G (d + 2) mX8_ownPace 0 [some (.ref 40), some (.int x1), some (.int x2), some (.int x3), some (.int x4)] [] (zh b I L) R := by
  refine zi_aload_n dX8_ownPace_0 rfl rfl ?_
  refine zi_iload_n dX8_ownPace_1 rfl rfl ?_
  refine zi_iload_n dX8_ownPace_2 rfl rfl ?_
  refine zi_iload_n dX8_ownPace_3 rfl rfl ?_
  refine zi_callS (N := mX8_felt) (av := [.int x3]) (st := [.int x2, .int x1, .ref 40]) (R1 := (some (.int (zfelt x3)), zh b I L)) dX8_ownPace_4 okX8_felt u_509 u_510 arX8_felt rfl (Nat.le_of_ble_eq_true rfl) (kX8_felt _) hR ?_
  show zA G (d + 2) mX8_ownPace 7 [some (.ref 40), some (.int x1), some (.int x2), some (.int x3), some (.int x4)] [.int (zfelt x3), .int x2, .int x1, .ref 40] (zh b I L) R
  refine zi_iload dX8_ownPace_7 rfl ?_
  refine zi_callSU (N := mX6_ownPace) (av := [.int x1, .int x2, .int (zfelt x3), .int x4]) (st := []) (R1 := (some (.int (zop1 x1 x2 (zfelt x3))), zh b I L)) dX8_ownPace_9 okX6_ownPace u_512 u_1185 u_134 u_503 (by decide) zc8 (rfl) (Nat.le_of_ble_eq_true rfl) arX6_ownPace rfl (Nat.le_of_ble_eq_true rfl) (kX6_ownPace_b _ _ _ _) hR ?_
  show zA G (d + 2) mX8_ownPace 12 [some (.ref 40), some (.int x1), some (.int x2), some (.int x3), some (.int x4)] [.int (zop1 x1 x2 (zfelt x3))] (zh b I L) R
  refine zi_iconst (v := 2) dX8_ownPace_12 (by decide) ?_
  refine zi_iadd dX8_ownPace_13 ?_
  subst K
  exact zi_ireturn dX8_ownPace_14 rfl rfl
