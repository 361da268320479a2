/-! rows by program: J7_fill_53178, J6_bitCount_0f7a4, X4_layOut, X4_becomeLike, X4_addRunner, X4_keepSlopes, X4_bringSlopesBack, X4_mostHurt, X1_roll, X1_partsWithin, X10_followAll, X10_follow, X10_harmInAll, X10_meet, X10_goersIn -/
set_option maxRecDepth 100000 in
theorem tJ7_fill_53178_0 {G : zG} {d b : Nat} {I : Nat → Nat → Int32} {L : Nat → Nat → Int64} {R : zR} {x1 : Int32} {a n : Nat} (ha : zsh a = (100, n)) (la : a < 74)
    (K : zA G d mJ7_fill_53178 5 [some (.ref a), some (.int x1), some (.int 0), some (.int (nI n))] [] (zh b I L) R) :
    zA G d mJ7_fill_53178 0 [some (.ref a), some (.int x1), none, none] [] (zh b I L) R := by
  refine zi_iconst (v := 0) dJ7_fill_53178_0 (by decide) ?_
  refine zi_istore_n (ls' := [some (.ref a), some (.int x1), some (.int 0), none]) dJ7_fill_53178_1 rfl (by decide) rfl ?_
  refine zi_aload_n dJ7_fill_53178_2 rfl rfl ?_
  refine zg_alen dJ7_fill_53178_3 (ha) la ?_
  refine zi_istore_n (ls' := [some (.ref a), some (.int x1), some (.int 0), some (.int (nI n))]) dJ7_fill_53178_4 rfl (by decide) rfl ?_
  exact K
set_option maxRecDepth 100000 in
theorem tJ7_fill_53178_5 {G : zG} {d b : Nat} {I : Nat → Nat → Int32} {L : Nat → Nat → Int64} {R : zR} {x1 : Int32} {x2 : Int32} {x3 : Int32} {a n : Nat} (ha : zsh a = (100, n)) (la : a < 74)
    (K : ((x3 ≤ x2 → R = (none, zh b I L)) ∧ (¬ x3 ≤ x2 → (vp_in x2 n ∧ zA G d mJ7_fill_53178 5 [some (.ref a), some (.int x1), some (.int (x2 + 1)), some (.int x3)] [] (zh b (zup I a (zx x2) x1) L) R)))) :
    zA G d mJ7_fill_53178 5 [some (.ref a), some (.int x1), some (.int x2), some (.int x3)] [] (zh b I L) R := by
  refine zi_iload_n dJ7_fill_53178_5 rfl rfl ?_
  refine zi_iload_n dJ7_fill_53178_6 rfl rfl ?_
  refine zi_icmp_ge (tgt := 20) dJ7_fill_53178_7 (by decide) (fun c1 => ?_) (fun c1 => ?_)
  · have K := K.1 c1
    subst K
    exact zi_return dJ7_fill_53178_20 rfl
  · have K := K.2 c1
    refine zi_aload_n dJ7_fill_53178_10 rfl rfl ?_
    refine zi_iload_n dJ7_fill_53178_11 rfl rfl ?_
    refine zi_iload_n dJ7_fill_53178_12 rfl rfl ?_
    have o2 := K.1
    have K := K.2
    refine zg_iastore dJ7_fill_53178_13 (ha) la o2 ?_
    refine zi_iinc (v := x2 + 1) (ls' := [some (.ref a), some (.int x1), some (.int (x2 + 1)), some (.int x3)]) dJ7_fill_53178_14 rfl (by decide) rfl rfl ?_
    refine zi_goto (tgt := 5) dJ7_fill_53178_17 (by decide) ?_
    exact K
set_option maxRecDepth 100000 in
theorem tJ6_bitCount_0f7a4_0 {G : zG} {d b : Nat} {I : Nat → Nat → Int32} {L : Nat → Nat → Int64} {R : zR} {x0 : Int32}
    (K : R = (some (.int ((((((((x0 - (((x0.toUInt32 >>> ((1 : Int32).toUInt32 &&& Int32.toUInt32 31)).toInt32) &&& 1431655765)) &&& 858993459) + ((((x0 - (((x0.toUInt32 >>> ((1 : Int32).toUInt32 &&& Int32.toUInt32 31)).toInt32) &&& 1431655765)).toUInt32 >>> ((2 : Int32).toUInt32 &&& Int32.toUInt32 31)).toInt32) &&& 858993459)) + (((((x0 - (((x0.toUInt32 >>> ((1 : Int32).toUInt32 &&& Int32.toUInt32 31)).toInt32) &&& 1431655765)) &&& 858993459) + ((((x0 - (((x0.toUInt32 >>> ((1 : Int32).toUInt32 &&& Int32.toUInt32 31)).toInt32) &&& 1431655765)).toUInt32 >>> ((2 : Int32).toUInt32 &&& Int32.toUInt32 31)).toInt32) &&& 858993459)).toUInt32 >>> ((4 : Int32).toUInt32 &&& Int32.toUInt32 31)).toInt32)) &&& 252645135) + (((((((x0 - (((x0.toUInt32 >>> ((1 : Int32).toUInt32 &&& Int32.toUInt32 31)).toInt32) &&& 1431655765)) &&& 858993459) + ((((x0 - (((x0.toUInt32 >>> ((1 : Int32).toUInt32 &&& Int32.toUInt32 31)).toInt32) &&& 1431655765)).toUInt32 >>> ((2 : Int32).toUInt32 &&& Int32.toUInt32 31)).toInt32) &&& 858993459)) + (((((x0 - (((x0.toUInt32 >>> ((1 : Int32).toUInt32 &&& Int32.toUInt32 31)).toInt32) &&& 1431655765)) &&& 858993459) + ((((x0 - (((x0.toUInt32 >>> ((1 : Int32).toUInt32 &&& Int32.toUInt32 31)).toInt32) &&& 1431655765)).toUInt32 >>> ((2 : Int32).toUInt32 &&& Int32.toUInt32 31)).toInt32) &&& 858993459)).toUInt32 >>> ((4 : Int32).toUInt32 &&& Int32.toUInt32 31)).toInt32)) &&& 252645135).toUInt32 >>> ((8 : Int32).toUInt32 &&& Int32.toUInt32 31)).toInt32)) + ((((((((x0 - (((x0.toUInt32 >>> ((1 : Int32).toUInt32 &&& Int32.toUInt32 31)).toInt32) &&& 1431655765)) &&& 858993459) + ((((x0 - (((x0.toUInt32 >>> ((1 : Int32).toUInt32 &&& Int32.toUInt32 31)).toInt32) &&& 1431655765)).toUInt32 >>> ((2 : Int32).toUInt32 &&& Int32.toUInt32 31)).toInt32) &&& 858993459)) + (((((x0 - (((x0.toUInt32 >>> ((1 : Int32).toUInt32 &&& Int32.toUInt32 31)).toInt32) &&& 1431655765)) &&& 858993459) + ((((x0 - (((x0.toUInt32 >>> ((1 : Int32).toUInt32 &&& Int32.toUInt32 31)).toInt32) &&& 1431655765)).toUInt32 >>> ((2 : Int32).toUInt32 &&& Int32.toUInt32 31)).toInt32) &&& 858993459)).toUInt32 >>> ((4 : Int32).toUInt32 &&& Int32.toUInt32 31)).toInt32)) &&& 252645135) + (((((((x0 - (((x0.toUInt32 >>> ((1 : Int32).toUInt32 &&& Int32.toUInt32 31)).toInt32) &&& 1431655765)) &&& 858993459) + ((((x0 - (((x0.toUInt32 >>> ((1 : Int32).toUInt32 &&& Int32.toUInt32 31)).toInt32) &&& 1431655765)).toUInt32 >>> ((2 : Int32).toUInt32 &&& Int32.toUInt32 31)).toInt32) &&& 858993459)) + (((((x0 - (((x0.toUInt32 >>> ((1 : Int32).toUInt32 &&& Int32.toUInt32 31)).toInt32) &&& 1431655765)) &&& 858993459) + ((((x0 - (((x0.toUInt32 >>> ((1 : Int32).toUInt32 &&& Int32.toUInt32 31)).toInt32) &&& 1431655765)).toUInt32 >>> ((2 : Int32).toUInt32 &&& Int32.toUInt32 31)).toInt32) &&& 858993459)).toUInt32 >>> ((4 : Int32).toUInt32 &&& Int32.toUInt32 31)).toInt32)) &&& 252645135).toUInt32 >>> ((8 : Int32).toUInt32 &&& Int32.toUInt32 31)).toInt32)).toUInt32 >>> ((16 : Int32).toUInt32 &&& Int32.toUInt32 31)).toInt32)) &&& 63)), zh b I L)) :
    zA G d mJ6_bitCount_0f7a4 0 [some (.int x0)] [] (zh b I L) R := by
  refine zi_iload_n dJ6_bitCount_0f7a4_0 rfl rfl ?_
  refine zi_iload_n dJ6_bitCount_0f7a4_1 rfl rfl ?_
  refine zi_iconst (v := 1) dJ6_bitCount_0f7a4_2 (by decide) ?_
  refine zi_iushr dJ6_bitCount_0f7a4_3 ?_
  refine zi_ldcw dJ6_bitCount_0f7a4_4 u_679 ?_
  refine zi_iand dJ6_bitCount_0f7a4_7 ?_
  refine zi_isub dJ6_bitCount_0f7a4_8 ?_
  refine zi_istore_n (ls' := [some (.int (x0 - (((x0.toUInt32 >>> ((1 : Int32).toUInt32 &&& Int32.toUInt32 31)).toInt32) &&& 1431655765)))]) dJ6_bitCount_0f7a4_9 rfl (by decide) rfl ?_
  refine zi_iload_n dJ6_bitCount_0f7a4_10 rfl rfl ?_
  refine zi_ldcw dJ6_bitCount_0f7a4_11 u_680 ?_
  refine zi_iand dJ6_bitCount_0f7a4_14 ?_
  refine zi_iload_n dJ6_bitCount_0f7a4_15 rfl rfl ?_
  refine zi_iconst (v := 2) dJ6_bitCount_0f7a4_16 (by decide) ?_
  refine zi_iushr dJ6_bitCount_0f7a4_17 ?_
  refine zi_ldcw dJ6_bitCount_0f7a4_18 u_680 ?_
  refine zi_iand dJ6_bitCount_0f7a4_21 ?_
  refine zi_iadd dJ6_bitCount_0f7a4_22 ?_
  refine zi_istore_n (ls' := [some (.int (((x0 - (((x0.toUInt32 >>> ((1 : Int32).toUInt32 &&& Int32.toUInt32 31)).toInt32) &&& 1431655765)) &&& 858993459) + ((((x0 - (((x0.toUInt32 >>> ((1 : Int32).toUInt32 &&& Int32.toUInt32 31)).toInt32) &&& 1431655765)).toUInt32 >>> ((2 : Int32).toUInt32 &&& Int32.toUInt32 31)).toInt32) &&& 858993459)))]) dJ6_bitCount_0f7a4_23 rfl (by decide) rfl ?_
  refine zi_iload_n dJ6_bitCount_0f7a4_24 rfl rfl ?_
  refine zi_iload_n dJ6_bitCount_0f7a4_25 rfl rfl ?_
  refine zi_iconst (v := 4) dJ6_bitCount_0f7a4_26 (by decide) ?_
  refine zi_iushr dJ6_bitCount_0f7a4_27 ?_
  refine zi_iadd dJ6_bitCount_0f7a4_28 ?_
  refine zi_ldcw dJ6_bitCount_0f7a4_29 u_681 ?_
  refine zi_iand dJ6_bitCount_0f7a4_32 ?_
  refine zi_istore_n (ls' := [some (.int (((((x0 - (((x0.toUInt32 >>> ((1 : Int32).toUInt32 &&& Int32.toUInt32 31)).toInt32) &&& 1431655765)) &&& 858993459) + ((((x0 - (((x0.toUInt32 >>> ((1 : Int32).toUInt32 &&& Int32.toUInt32 31)).toInt32) &&& 1431655765)).toUInt32 >>> ((2 : Int32).toUInt32 &&& Int32.toUInt32 31)).toInt32) &&& 858993459)) + (((((x0 - (((x0.toUInt32 >>> ((1 : Int32).toUInt32 &&& Int32.toUInt32 31)).toInt32) &&& 1431655765)) &&& 858993459) + ((((x0 - (((x0.toUInt32 >>> ((1 : Int32).toUInt32 &&& Int32.toUInt32 31)).toInt32) &&& 1431655765)).toUInt32 >>> ((2 : Int32).toUInt32 &&& Int32.toUInt32 31)).toInt32) &&& 858993459)).toUInt32 >>> ((4 : Int32).toUInt32 &&& Int32.toUInt32 31)).toInt32)) &&& 252645135))]) dJ6_bitCount_0f7a4_33 rfl (by decide) rfl ?_
  refine zi_iload_n dJ6_bitCount_0f7a4_34 rfl rfl ?_
  refine zi_iload_n dJ6_bitCount_0f7a4_35 rfl rfl ?_
  refine zi_bipush (v := 8) dJ6_bitCount_0f7a4_36 (by decide) ?_
  refine zi_iushr dJ6_bitCount_0f7a4_38 ?_
  refine zi_iadd dJ6_bitCount_0f7a4_39 ?_
  refine zi_istore_n (ls' := [some (.int ((((((x0 - (((x0.toUInt32 >>> ((1 : Int32).toUInt32 &&& Int32.toUInt32 31)).toInt32) &&& 1431655765)) &&& 858993459) + ((((x0 - (((x0.toUInt32 >>> ((1 : Int32).toUInt32 &&& Int32.toUInt32 31)).toInt32) &&& 1431655765)).toUInt32 >>> ((2 : Int32).toUInt32 &&& Int32.toUInt32 31)).toInt32) &&& 858993459)) + (((((x0 - (((x0.toUInt32 >>> ((1 : Int32).toUInt32 &&& Int32.toUInt32 31)).toInt32) &&& 1431655765)) &&& 858993459) + ((((x0 - (((x0.toUInt32 >>> ((1 : Int32).toUInt32 &&& Int32.toUInt32 31)).toInt32) &&& 1431655765)).toUInt32 >>> ((2 : Int32).toUInt32 &&& Int32.toUInt32 31)).toInt32) &&& 858993459)).toUInt32 >>> ((4 : Int32).toUInt32 &&& Int32.toUInt32 31)).toInt32)) &&& 252645135) + (((((((x0 - (((x0.toUInt32 >>> ((1 : Int32).toUInt32 &&& Int32.toUInt32 31)).toInt32) &&& 1431655765)) &&& 858993459) + ((((x0 - (((x0.toUInt32 >>> ((1 : Int32).toUInt32 &&& Int32.toUInt32 31)).toInt32) &&& 1431655765)).toUInt32 >>> ((2 : Int32).toUInt32 &&& Int32.toUInt32 31)).toInt32) &&& 858993459)) + (((((x0 - (((x0.toUInt32 >>> ((1 : Int32).toUInt32 &&& Int32.toUInt32 31)).toInt32) &&& 1431655765)) &&& 858993459) + ((((x0 - (((x0.toUInt32 >>> ((1 : Int32).toUInt32 &&& Int32.toUInt32 31)).toInt32) &&& 1431655765)).toUInt32 >>> ((2 : Int32).toUInt32 &&& Int32.toUInt32 31)).toInt32) &&& 858993459)).toUInt32 >>> ((4 : Int32).toUInt32 &&& Int32.toUInt32 31)).toInt32)) &&& 252645135).toUInt32 >>> ((8 : Int32).toUInt32 &&& Int32.toUInt32 31)).toInt32)))]) dJ6_bitCount_0f7a4_40 rfl (by decide) rfl ?_
  refine zi_iload_n dJ6_bitCount_0f7a4_41 rfl rfl ?_
  refine zi_iload_n dJ6_bitCount_0f7a4_42 rfl rfl ?_
  refine zi_bipush (v := 16) dJ6_bitCount_0f7a4_43 (by decide) ?_
  refine zi_iushr dJ6_bitCount_0f7a4_45 ?_
  refine zi_iadd dJ6_bitCount_0f7a4_46 ?_
  refine zi_istore_n (ls' := [some (.int (((((((x0 - (((x0.toUInt32 >>> ((1 : Int32).toUInt32 &&& Int32.toUInt32 31)).toInt32) &&& 1431655765)) &&& 858993459) + ((((x0 - (((x0.toUInt32 >>> ((1 : Int32).toUInt32 &&& Int32.toUInt32 31)).toInt32) &&& 1431655765)).toUInt32 >>> ((2 : Int32).toUInt32 &&& Int32.toUInt32 31)).toInt32) &&& 858993459)) + (((((x0 - (((x0.toUInt32 >>> ((1 : Int32).toUInt32 &&& Int32.toUInt32 31)).toInt32) &&& 1431655765)) &&& 858993459) + ((((x0 - (((x0.toUInt32 >>> ((1 : Int32).toUInt32 &&& Int32.toUInt32 31)).toInt32) &&& 1431655765)).toUInt32 >>> ((2 : Int32).toUInt32 &&& Int32.toUInt32 31)).toInt32) &&& 858993459)).toUInt32 >>> ((4 : Int32).toUInt32 &&& Int32.toUInt32 31)).toInt32)) &&& 252645135) + (((((((x0 - (((x0.toUInt32 >>> ((1 : Int32).toUInt32 &&& Int32.toUInt32 31)).toInt32) &&& 1431655765)) &&& 858993459) + ((((x0 - (((x0.toUInt32 >>> ((1 : Int32).toUInt32 &&& Int32.toUInt32 31)).toInt32) &&& 1431655765)).toUInt32 >>> ((2 : Int32).toUInt32 &&& Int32.toUInt32 31)).toInt32) &&& 858993459)) + (((((x0 - (((x0.toUInt32 >>> ((1 : Int32).toUInt32 &&& Int32.toUInt32 31)).toInt32) &&& 1431655765)) &&& 858993459) + ((((x0 - (((x0.toUInt32 >>> ((1 : Int32).toUInt32 &&& Int32.toUInt32 31)).toInt32) &&& 1431655765)).toUInt32 >>> ((2 : Int32).toUInt32 &&& Int32.toUInt32 31)).toInt32) &&& 858993459)).toUInt32 >>> ((4 : Int32).toUInt32 &&& Int32.toUInt32 31)).toInt32)) &&& 252645135).toUInt32 >>> ((8 : Int32).toUInt32 &&& Int32.toUInt32 31)).toInt32)) + ((((((((x0 - (((x0.toUInt32 >>> ((1 : Int32).toUInt32 &&& Int32.toUInt32 31)).toInt32) &&& 1431655765)) &&& 858993459) + ((((x0 - (((x0.toUInt32 >>> ((1 : Int32).toUInt32 &&& Int32.toUInt32 31)).toInt32) &&& 1431655765)).toUInt32 >>> ((2 : Int32).toUInt32 &&& Int32.toUInt32 31)).toInt32) &&& 858993459)) + (((((x0 - (((x0.toUInt32 >>> ((1 : Int32).toUInt32 &&& Int32.toUInt32 31)).toInt32) &&& 1431655765)) &&& 858993459) + ((((x0 - (((x0.toUInt32 >>> ((1 : Int32).toUInt32 &&& Int32.toUInt32 31)).toInt32) &&& 1431655765)).toUInt32 >>> ((2 : Int32).toUInt32 &&& Int32.toUInt32 31)).toInt32) &&& 858993459)).toUInt32 >>> ((4 : Int32).toUInt32 &&& Int32.toUInt32 31)).toInt32)) &&& 252645135) + (((((((x0 - (((x0.toUInt32 >>> ((1 : Int32).toUInt32 &&& Int32.toUInt32 31)).toInt32) &&& 1431655765)) &&& 858993459) + ((((x0 - (((x0.toUInt32 >>> ((1 : Int32).toUInt32 &&& Int32.toUInt32 31)).toInt32) &&& 1431655765)).toUInt32 >>> ((2 : Int32).toUInt32 &&& Int32.toUInt32 31)).toInt32) &&& 858993459)) + (((((x0 - (((x0.toUInt32 >>> ((1 : Int32).toUInt32 &&& Int32.toUInt32 31)).toInt32) &&& 1431655765)) &&& 858993459) + ((((x0 - (((x0.toUInt32 >>> ((1 : Int32).toUInt32 &&& Int32.toUInt32 31)).toInt32) &&& 1431655765)).toUInt32 >>> ((2 : Int32).toUInt32 &&& Int32.toUInt32 31)).toInt32) &&& 858993459)).toUInt32 >>> ((4 : Int32).toUInt32 &&& Int32.toUInt32 31)).toInt32)) &&& 252645135).toUInt32 >>> ((8 : Int32).toUInt32 &&& Int32.toUInt32 31)).toInt32)).toUInt32 >>> ((16 : Int32).toUInt32 &&& Int32.toUInt32 31)).toInt32)))]) dJ6_bitCount_0f7a4_47 rfl (by decide) rfl ?_
  refine zi_iload_n dJ6_bitCount_0f7a4_48 rfl rfl ?_
  refine zi_bipush (v := 63) dJ6_bitCount_0f7a4_49 (by decide) ?_
  refine zi_iand dJ6_bitCount_0f7a4_51 ?_
  subst K
  exact zi_ireturn dJ6_bitCount_0f7a4_52 rfl rfl
set_option maxRecDepth 100000 in
theorem tX4_layOut_0 {G : zG} {d b : Nat} {q : Nat} {I : Nat → Nat → Int32} {L : Nat → Nat → Int64} {R : zR} {x1 : Int32} {x2 : Int32} (hq : zhl q) (hR : zR0 R)
    (K : (∀ I1 : Nat → Nat → Int32, I1 = (zup I q 0 x1) → (∀ I2 : Nat → Nat → Int32, I2 = (zup I1 q 1 x2) → (∀ I3 : Nat → Nat → Int32, I3 = (zup I2 q 2 0) → (∀ I4 : Nat → Nat → Int32, I4 = (zup I3 q 3 0) → (∃ (I5 : Nat → Nat → Int32), zCall d mJ7_fill_53178 [.ref (q + 1), .int 3] (zh b (zup I4 q 4 0) L) (none, zh b I5 L) ∧ (∃ (I7 : Nat → Nat → Int32), zCall d mJ7_fill_53178 [.ref (q + 2), .int 0] (zh b I5 L) (none, zh b I7 L) ∧ R = (none, zh b I7 L)))))))) :
    zA G (d + 1) mX4_layOut 0 [some (.ref q), some (.int x1), some (.int x2)] [] (zh b I L) R := by
  refine zi_aload_n dX4_layOut_0 rfl rfl ?_
  refine zi_iload_n dX4_layOut_1 rfl rfl ?_
  refine zg_putI (k := 0) dX4_layOut_2 zc4 hq.sh hq.l0 (Nat.le_of_ble_eq_true rfl) u_36 rfl rfl ?_
  refine zi_aload_n dX4_layOut_5 rfl rfl ?_
  refine zi_iload_n dX4_layOut_6 rfl rfl ?_
  refine zi_name (fun I1 hI1 => ?_)
  have K := K I1 hI1
  refine zg_putI (k := 1) dX4_layOut_7 zc4 hq.sh hq.l0 (Nat.le_of_ble_eq_true rfl) u_42 rfl rfl ?_
  refine zi_aload_n dX4_layOut_10 rfl rfl ?_
  refine zi_iconst (v := 0) dX4_layOut_11 (by decide) ?_
  refine zi_name (fun I2 hI2 => ?_)
  have K := K I2 hI2
  refine zg_putI (k := 2) dX4_layOut_12 zc4 hq.sh hq.l0 (Nat.le_of_ble_eq_true rfl) u_47 rfl rfl ?_
  refine zi_aload_n dX4_layOut_15 rfl rfl ?_
  refine zi_iconst (v := 0) dX4_layOut_16 (by decide) ?_
  refine zi_name (fun I3 hI3 => ?_)
  have K := K I3 hI3
  refine zg_putI (k := 3) dX4_layOut_17 zc4 hq.sh hq.l0 (Nat.le_of_ble_eq_true rfl) u_50 rfl rfl ?_
  refine zi_aload_n dX4_layOut_20 rfl rfl ?_
  refine zi_iconst (v := 0) dX4_layOut_21 (by decide) ?_
  refine zi_name (fun I4 hI4 => ?_)
  have K := K I4 hI4
  refine zg_putI (k := 4) dX4_layOut_22 zc4 hq.sh hq.l0 (Nat.le_of_ble_eq_true rfl) u_52 rfl rfl ?_
  refine zi_aload_n dX4_layOut_25 rfl rfl ?_
  refine zg_getF (k := 5) (v := .ref (q + 1)) dX4_layOut_26 zc4 hq.sh hq.l0 (Nat.le_of_ble_eq_true rfl) u_54 rfl (hq.f5) ?_
  refine zi_iconst (v := 3) dX4_layOut_29 (by decide) ?_
  obtain ⟨I5, h6, K⟩ := K
  refine zi_callS (N := mJ7_fill_53178) (av := [.ref (q + 1), .int 3]) (st := []) (R1 := (none, zh b I5 L)) dX4_layOut_30 okJ7_fill_53178 u_241 u_242 arJ7_fill_53178 rfl (Nat.le_of_ble_eq_true rfl) (h6) hR ?_
  show zA G (d + 1) mX4_layOut 33 [some (.ref q), some (.int x1), some (.int x2)] [] (zh b I5 L) R
  refine zi_aload_n dX4_layOut_33 rfl rfl ?_
  refine zg_getF (k := 6) (v := .ref (q + 2)) dX4_layOut_34 zc4 hq.sh hq.l0 (Nat.le_of_ble_eq_true rfl) u_59 rfl (hq.f6) ?_
  refine zi_iconst (v := 0) dX4_layOut_37 (by decide) ?_
  obtain ⟨I7, h8, K⟩ := K
  refine zi_callS (N := mJ7_fill_53178) (av := [.ref (q + 2), .int 0]) (st := []) (R1 := (none, zh b I7 L)) dX4_layOut_38 okJ7_fill_53178 u_241 u_242 arJ7_fill_53178 rfl (Nat.le_of_ble_eq_true rfl) (h8) hR ?_
  show zA G (d + 1) mX4_layOut 41 [some (.ref q), some (.int x1), some (.int x2)] [] (zh b I7 L) R
  subst K
  exact zi_return dX4_layOut_41 rfl
set_option maxRecDepth 100000 in
theorem tX4_becomeLike_0 {G : zG} {d b : Nat} {q : Nat} {I : Nat → Nat → Int32} {L : Nat → Nat → Int64} {R : zR}  {o : Nat} (ho : zhl o) (hq : zhl q)
    (K : (∀ I1 : Nat → Nat → Int32, I1 = (zup I q 0 (I o 0)) → (∀ I2 : Nat → Nat → Int32, I2 = (zup I1 q 1 ((zup I q 0 (I o 0)) o 1)) → (∀ I3 : Nat → Nat → Int32, I3 = (zup I2 q 2 ((zup I1 q 1 ((zup I q 0 (I o 0)) o 1)) o 2)) → (∀ I4 : Nat → Nat → Int32, I4 = (zup I3 q 3 ((zup I2 q 2 ((zup I1 q 1 ((zup I q 0 (I o 0)) o 1)) o 2)) o 3)) → (∀ I5 : Nat → Nat → Int32, I5 = (zup I4 q 4 ((zup I3 q 3 ((zup I2 q 2 ((zup I1 q 1 ((zup I q 0 (I o 0)) o 1)) o 2)) o 3)) o 4)) → (((¬ (0 : Int32) < 0 ∧ ¬ (0 : Int32) < 0 ∧ ¬ (48 : Int32) < 0) ∧ zx 0 + zx 48 ≤ 48 ∧ zx 0 + zx 48 ≤ 48) ∧ (∀ I7 : Nat → Nat → Int32, I7 = (zrow I5 (q + 1) (va_cpy (I5 (o + 1)) (I5 (q + 1)) (zx 0) (zx 0) (zx 48))) → (((¬ (0 : Int32) < 0 ∧ ¬ (0 : Int32) < 0 ∧ ¬ (48 : Int32) < 0) ∧ zx 0 + zx 48 ≤ 48 ∧ zx 0 + zx 48 ≤ 48) ∧ (∀ I9 : Nat → Nat → Int32, I9 = (zrow I7 (q + 2) (va_cpy (I7 (o + 2)) (I7 (q + 2)) (zx 0) (zx 0) (zx 48))) → (((¬ (0 : Int32) < 0 ∧ ¬ (0 : Int32) < 0 ∧ ¬ (6 : Int32) < 0) ∧ zx 0 + zx 6 ≤ 6 ∧ zx 0 + zx 6 ≤ 6) ∧ (∀ I11 : Nat → Nat → Int32, I11 = (zrow I9 (q + 3) (va_cpy (I9 (o + 3)) (I9 (q + 3)) (zx 0) (zx 0) (zx 6))) → (((¬ (0 : Int32) < 0 ∧ ¬ (0 : Int32) < 0 ∧ ¬ (6 : Int32) < 0) ∧ zx 0 + zx 6 ≤ 6 ∧ zx 0 + zx 6 ≤ 6) ∧ (∀ I13 : Nat → Nat → Int32, I13 = (zrow I11 (q + 4) (va_cpy (I11 (o + 4)) (I11 (q + 4)) (zx 0) (zx 0) (zx 6))) → (((¬ (0 : Int32) < 0 ∧ ¬ (0 : Int32) < 0 ∧ ¬ (6 : Int32) < 0) ∧ zx 0 + zx 6 ≤ 6 ∧ zx 0 + zx 6 ≤ 6) ∧ (∀ I15 : Nat → Nat → Int32, I15 = (zrow I13 (q + 5) (va_cpy (I13 (o + 5)) (I13 (q + 5)) (zx 0) (zx 0) (zx 6))) → (((¬ (0 : Int32) < 0 ∧ ¬ (0 : Int32) < 0 ∧ ¬ (48 : Int32) < 0) ∧ zx 0 + zx 48 ≤ 48 ∧ zx 0 + zx 48 ≤ 48) ∧ (∀ I17 : Nat → Nat → Int32, I17 = (zrow I15 (q + 6) (va_cpy (I15 (o + 6)) (I15 (q + 6)) (zx 0) (zx 0) (zx 48))) → (((¬ (0 : Int32) < 0 ∧ ¬ (0 : Int32) < 0 ∧ ¬ (8 : Int32) < 0) ∧ zx 0 + zx 8 ≤ 8 ∧ zx 0 + zx 8 ≤ 8) ∧ (∀ I19 : Nat → Nat → Int32, I19 = (zrow I17 (q + 7) (va_cpy (I17 (o + 7)) (I17 (q + 7)) (zx 0) (zx 0) (zx 8))) → (((¬ (0 : Int32) < 0 ∧ ¬ (0 : Int32) < 0 ∧ ¬ (288 : Int32) < 0) ∧ zx 0 + zx 288 ≤ 288 ∧ zx 0 + zx 288 ≤ 288) ∧ R = (none, zh b (zrow I19 (q + 8) (va_cpy (I19 (o + 8)) (I19 (q + 8)) (zx 0) (zx 0) (zx 288))) L)))))))))))))))))))))) :
    zA G (d + 1) mX4_becomeLike 0 [some (.ref q), some (.ref o)] [] (zh b I L) R := by
  refine zi_aload_n dX4_becomeLike_0 rfl rfl ?_
  refine zi_aload_n dX4_becomeLike_1 rfl rfl ?_
  refine zg_getI (k := 0) dX4_becomeLike_2 zc4 ho.sh ho.l0 (Nat.le_of_ble_eq_true rfl) u_36 rfl ?_
  refine zg_putI (k := 0) dX4_becomeLike_5 zc4 hq.sh hq.l0 (Nat.le_of_ble_eq_true rfl) u_36 rfl rfl ?_
  refine zi_aload_n dX4_becomeLike_8 rfl rfl ?_
  refine zi_aload_n dX4_becomeLike_9 rfl rfl ?_
  refine zg_getI (k := 1) dX4_becomeLike_10 zc4 ho.sh ho.l0 (Nat.le_of_ble_eq_true rfl) u_42 rfl ?_
  refine zi_name (fun I1 hI1 => ?_)
  have K := K I1 hI1
  refine zg_putI (k := 1) dX4_becomeLike_13 zc4 hq.sh hq.l0 (Nat.le_of_ble_eq_true rfl) u_42 rfl rfl ?_
  refine zi_aload_n dX4_becomeLike_16 rfl rfl ?_
  refine zi_aload_n dX4_becomeLike_17 rfl rfl ?_
  refine zg_getI (k := 2) dX4_becomeLike_18 zc4 ho.sh ho.l0 (Nat.le_of_ble_eq_true rfl) u_47 rfl ?_
  refine zi_name (fun I2 hI2 => ?_)
  have K := K I2 hI2
  refine zg_putI (k := 2) dX4_becomeLike_21 zc4 hq.sh hq.l0 (Nat.le_of_ble_eq_true rfl) u_47 rfl rfl ?_
  refine zi_aload_n dX4_becomeLike_24 rfl rfl ?_
  refine zi_aload_n dX4_becomeLike_25 rfl rfl ?_
  refine zg_getI (k := 3) dX4_becomeLike_26 zc4 ho.sh ho.l0 (Nat.le_of_ble_eq_true rfl) u_50 rfl ?_
  refine zi_name (fun I3 hI3 => ?_)
  have K := K I3 hI3
  refine zg_putI (k := 3) dX4_becomeLike_29 zc4 hq.sh hq.l0 (Nat.le_of_ble_eq_true rfl) u_50 rfl rfl ?_
  refine zi_aload_n dX4_becomeLike_32 rfl rfl ?_
  refine zi_aload_n dX4_becomeLike_33 rfl rfl ?_
  refine zg_getI (k := 4) dX4_becomeLike_34 zc4 ho.sh ho.l0 (Nat.le_of_ble_eq_true rfl) u_52 rfl ?_
  refine zi_name (fun I4 hI4 => ?_)
  have K := K I4 hI4
  refine zg_putI (k := 4) dX4_becomeLike_37 zc4 hq.sh hq.l0 (Nat.le_of_ble_eq_true rfl) u_52 rfl rfl ?_
  refine zi_aload_n dX4_becomeLike_40 rfl rfl ?_
  refine zg_getF (k := 5) (v := .ref (o + 1)) dX4_becomeLike_41 zc4 ho.sh ho.l0 (Nat.le_of_ble_eq_true rfl) u_54 rfl (ho.f5) ?_
  refine zi_iconst (v := 0) dX4_becomeLike_44 (by decide) ?_
  refine zi_aload_n dX4_becomeLike_45 rfl rfl ?_
  refine zg_getF (k := 5) (v := .ref (q + 1)) dX4_becomeLike_46 zc4 hq.sh hq.l0 (Nat.le_of_ble_eq_true rfl) u_54 rfl (hq.f5) ?_
  refine zi_iconst (v := 0) dX4_becomeLike_49 (by decide) ?_
  refine zi_bipush (v := 48) dX4_becomeLike_50 (by decide) ?_
  refine zi_name (fun I5 hI5 => ?_)
  have K := K I5 hI5
  have o6 := K.1
  have K := K.2
  refine zg_copy dX4_becomeLike_52 u_702 (ho.lt 1 (Nat.le_of_ble_eq_true rfl)) (hq.lt 1 (Nat.le_of_ble_eq_true rfl)) (ho.s1) (hq.s1) o6 (Nat.le_of_ble_eq_true rfl) ?_
  refine zi_aload_n dX4_becomeLike_55 rfl rfl ?_
  refine zg_getF (k := 6) (v := .ref (o + 2)) dX4_becomeLike_56 zc4 ho.sh ho.l0 (Nat.le_of_ble_eq_true rfl) u_59 rfl (ho.f6) ?_
  refine zi_iconst (v := 0) dX4_becomeLike_59 (by decide) ?_
  refine zi_aload_n dX4_becomeLike_60 rfl rfl ?_
  refine zg_getF (k := 6) (v := .ref (q + 2)) dX4_becomeLike_61 zc4 hq.sh hq.l0 (Nat.le_of_ble_eq_true rfl) u_59 rfl (hq.f6) ?_
  refine zi_iconst (v := 0) dX4_becomeLike_64 (by decide) ?_
  refine zi_bipush (v := 48) dX4_becomeLike_65 (by decide) ?_
  refine zi_name (fun I7 hI7 => ?_)
  have K := K I7 hI7
  have o8 := K.1
  have K := K.2
  refine zg_copy dX4_becomeLike_67 u_702 (ho.lt 2 (Nat.le_of_ble_eq_true rfl)) (hq.lt 2 (Nat.le_of_ble_eq_true rfl)) (ho.s2) (hq.s2) o8 (Nat.le_of_ble_eq_true rfl) ?_
  refine zi_aload_n dX4_becomeLike_70 rfl rfl ?_
  refine zg_getF (k := 7) (v := .ref (o + 3)) dX4_becomeLike_71 zc4 ho.sh ho.l0 (Nat.le_of_ble_eq_true rfl) u_65 rfl (ho.f7) ?_
  refine zi_iconst (v := 0) dX4_becomeLike_74 (by decide) ?_
  refine zi_aload_n dX4_becomeLike_75 rfl rfl ?_
  refine zg_getF (k := 7) (v := .ref (q + 3)) dX4_becomeLike_76 zc4 hq.sh hq.l0 (Nat.le_of_ble_eq_true rfl) u_65 rfl (hq.f7) ?_
  refine zi_iconst (v := 0) dX4_becomeLike_79 (by decide) ?_
  refine zi_bipush (v := 6) dX4_becomeLike_80 (by decide) ?_
  refine zi_name (fun I9 hI9 => ?_)
  have K := K I9 hI9
  have o10 := K.1
  have K := K.2
  refine zg_copy dX4_becomeLike_82 u_702 (ho.lt 3 (Nat.le_of_ble_eq_true rfl)) (hq.lt 3 (Nat.le_of_ble_eq_true rfl)) (ho.s3) (hq.s3) o10 (Nat.le_of_ble_eq_true rfl) ?_
  refine zi_aload_n dX4_becomeLike_85 rfl rfl ?_
  refine zg_getF (k := 8) (v := .ref (o + 4)) dX4_becomeLike_86 zc4 ho.sh ho.l0 (Nat.le_of_ble_eq_true rfl) u_68 rfl (ho.f8) ?_
  refine zi_iconst (v := 0) dX4_becomeLike_89 (by decide) ?_
  refine zi_aload_n dX4_becomeLike_90 rfl rfl ?_
  refine zg_getF (k := 8) (v := .ref (q + 4)) dX4_becomeLike_91 zc4 hq.sh hq.l0 (Nat.le_of_ble_eq_true rfl) u_68 rfl (hq.f8) ?_
  refine zi_iconst (v := 0) dX4_becomeLike_94 (by decide) ?_
  refine zi_bipush (v := 6) dX4_becomeLike_95 (by decide) ?_
  refine zi_name (fun I11 hI11 => ?_)
  have K := K I11 hI11
  have o12 := K.1
  have K := K.2
  refine zg_copy dX4_becomeLike_97 u_702 (ho.lt 4 (Nat.le_of_ble_eq_true rfl)) (hq.lt 4 (Nat.le_of_ble_eq_true rfl)) (ho.s4) (hq.s4) o12 (Nat.le_of_ble_eq_true rfl) ?_
  refine zi_aload_n dX4_becomeLike_100 rfl rfl ?_
  refine zg_getF (k := 9) (v := .ref (o + 5)) dX4_becomeLike_101 zc4 ho.sh ho.l0 (Nat.le_of_ble_eq_true rfl) u_71 rfl (ho.f9) ?_
  refine zi_iconst (v := 0) dX4_becomeLike_104 (by decide) ?_
  refine zi_aload_n dX4_becomeLike_105 rfl rfl ?_
  refine zg_getF (k := 9) (v := .ref (q + 5)) dX4_becomeLike_106 zc4 hq.sh hq.l0 (Nat.le_of_ble_eq_true rfl) u_71 rfl (hq.f9) ?_
  refine zi_iconst (v := 0) dX4_becomeLike_109 (by decide) ?_
  refine zi_bipush (v := 6) dX4_becomeLike_110 (by decide) ?_
  refine zi_name (fun I13 hI13 => ?_)
  have K := K I13 hI13
  have o14 := K.1
  have K := K.2
  refine zg_copy dX4_becomeLike_112 u_702 (ho.lt 5 (Nat.le_of_ble_eq_true rfl)) (hq.lt 5 (Nat.le_of_ble_eq_true rfl)) (ho.s5) (hq.s5) o14 (Nat.le_of_ble_eq_true rfl) ?_
  refine zi_aload_n dX4_becomeLike_115 rfl rfl ?_
  refine zg_getF (k := 10) (v := .ref (o + 6)) dX4_becomeLike_116 zc4 ho.sh ho.l0 (Nat.le_of_ble_eq_true rfl) u_73 rfl (ho.f10) ?_
  refine zi_iconst (v := 0) dX4_becomeLike_119 (by decide) ?_
  refine zi_aload_n dX4_becomeLike_120 rfl rfl ?_
  refine zg_getF (k := 10) (v := .ref (q + 6)) dX4_becomeLike_121 zc4 hq.sh hq.l0 (Nat.le_of_ble_eq_true rfl) u_73 rfl (hq.f10) ?_
  refine zi_iconst (v := 0) dX4_becomeLike_124 (by decide) ?_
  refine zi_bipush (v := 48) dX4_becomeLike_125 (by decide) ?_
  refine zi_name (fun I15 hI15 => ?_)
  have K := K I15 hI15
  have o16 := K.1
  have K := K.2
  refine zg_copy dX4_becomeLike_127 u_702 (ho.lt 6 (Nat.le_of_ble_eq_true rfl)) (hq.lt 6 (Nat.le_of_ble_eq_true rfl)) (ho.s6) (hq.s6) o16 (Nat.le_of_ble_eq_true rfl) ?_
  refine zi_aload_n dX4_becomeLike_130 rfl rfl ?_
  refine zg_getF (k := 11) (v := .ref (o + 7)) dX4_becomeLike_131 zc4 ho.sh ho.l0 (Nat.le_of_ble_eq_true rfl) u_77 rfl (ho.f11) ?_
  refine zi_iconst (v := 0) dX4_becomeLike_134 (by decide) ?_
  refine zi_aload_n dX4_becomeLike_135 rfl rfl ?_
  refine zg_getF (k := 11) (v := .ref (q + 7)) dX4_becomeLike_136 zc4 hq.sh hq.l0 (Nat.le_of_ble_eq_true rfl) u_77 rfl (hq.f11) ?_
  refine zi_iconst (v := 0) dX4_becomeLike_139 (by decide) ?_
  refine zi_bipush (v := 8) dX4_becomeLike_140 (by decide) ?_
  refine zi_name (fun I17 hI17 => ?_)
  have K := K I17 hI17
  have o18 := K.1
  have K := K.2
  refine zg_copy dX4_becomeLike_142 u_702 (ho.lt 7 (Nat.le_of_ble_eq_true rfl)) (hq.lt 7 (Nat.le_of_ble_eq_true rfl)) (ho.s7) (hq.s7) o18 (Nat.le_of_ble_eq_true rfl) ?_
  refine zi_aload_n dX4_becomeLike_145 rfl rfl ?_
  refine zg_getF (k := 12) (v := .ref (o + 8)) dX4_becomeLike_146 zc4 ho.sh ho.l0 (Nat.le_of_ble_eq_true rfl) u_79 rfl (ho.f12) ?_
  refine zi_iconst (v := 0) dX4_becomeLike_149 (by decide) ?_
  refine zi_aload_n dX4_becomeLike_150 rfl rfl ?_
  refine zg_getF (k := 12) (v := .ref (q + 8)) dX4_becomeLike_151 zc4 hq.sh hq.l0 (Nat.le_of_ble_eq_true rfl) u_79 rfl (hq.f12) ?_
  refine zi_iconst (v := 0) dX4_becomeLike_154 (by decide) ?_
  refine zi_sipush (v := 288) dX4_becomeLike_155 (by decide) ?_
  refine zi_name (fun I19 hI19 => ?_)
  have K := K I19 hI19
  have o20 := K.1
  have K := K.2
  refine zg_copy dX4_becomeLike_158 u_702 (ho.lt 8 (Nat.le_of_ble_eq_true rfl)) (hq.lt 8 (Nat.le_of_ble_eq_true rfl)) (ho.s8) (hq.s8) o20 (Nat.le_of_ble_eq_true rfl) ?_
  subst K
  exact zi_return dX4_becomeLike_161 rfl
set_option maxRecDepth 100000 in
theorem tX4_addRunner_0 {G : zG} {d b : Nat} {q : Nat} {I : Nat → Nat → Int32} {L : Nat → Nat → Int64} {R : zR} {x1 : Int32} {x2 : Int32} {x3 : Int32} (hq : zhl q)
    (K : (((I q 2) < 6 → (vp_in (I q 2) 6 ∧ (vp_in ((zup I (q + 3) (zx (I q 2)) x1) q 2) 6 ∧ (∀ I4 : Nat → Nat → Int32, I4 = (zup I (q + 3) (zx (I q 2)) x1) → (vp_in ((zup I4 (q + 4) (zx ((zup I (q + 3) (zx (I q 2)) x1) q 2)) x2) q 2) 6 ∧ (∀ I6 : Nat → Nat → Int32, I6 = (zup I4 (q + 4) (zx ((zup I (q + 3) (zx (I q 2)) x1) q 2)) x2) → zA G (d + 1) mX4_addRunner 43 [some (.ref q), some (.int x1), some (.int x2), some (.int x3), some (.int 0)] [] (zh b (zup I6 (q + 5) (zx ((zup I4 (q + 4) (zx ((zup I (q + 3) (zx (I q 2)) x1) q 2)) x2) q 2)) x3) L) R)))))) ∧ (¬ (I q 2) < 6 → R = (none, zh b I L)))) :
    zA G (d + 1) mX4_addRunner 0 [some (.ref q), some (.int x1), some (.int x2), some (.int x3), none] [] (zh b I L) R := by
  refine zi_aload_n dX4_addRunner_0 rfl rfl ?_
  refine zg_getI (k := 2) dX4_addRunner_1 zc4 hq.sh hq.l0 (Nat.le_of_ble_eq_true rfl) u_47 rfl ?_
  refine zi_bipush (v := 6) dX4_addRunner_4 (by decide) ?_
  refine zi_icmp_lt (tgt := 10) dX4_addRunner_6 (by decide) (fun c1 => ?_) (fun c1 => ?_)
  · have K := K.1 c1
    refine zi_aload_n dX4_addRunner_10 rfl rfl ?_
    refine zg_getF (k := 7) (v := .ref (q + 3)) dX4_addRunner_11 zc4 hq.sh hq.l0 (Nat.le_of_ble_eq_true rfl) u_65 rfl (hq.f7) ?_
    refine zi_aload_n dX4_addRunner_14 rfl rfl ?_
    refine zg_getI (k := 2) dX4_addRunner_15 zc4 hq.sh hq.l0 (Nat.le_of_ble_eq_true rfl) u_47 rfl ?_
    refine zi_iload_n dX4_addRunner_18 rfl rfl ?_
    have o2 := K.1
    have K := K.2
    refine zg_iastore dX4_addRunner_19 (hq.s3) (hq.lt 3 (Nat.le_of_ble_eq_true rfl)) o2 ?_
    refine zi_aload_n dX4_addRunner_20 rfl rfl ?_
    refine zg_getF (k := 8) (v := .ref (q + 4)) dX4_addRunner_21 zc4 hq.sh hq.l0 (Nat.le_of_ble_eq_true rfl) u_68 rfl (hq.f8) ?_
    refine zi_aload_n dX4_addRunner_24 rfl rfl ?_
    refine zg_getI (k := 2) dX4_addRunner_25 zc4 hq.sh hq.l0 (Nat.le_of_ble_eq_true rfl) u_47 rfl ?_
    refine zi_iload_n dX4_addRunner_28 rfl rfl ?_
    have o3 := K.1
    have K := K.2
    refine zi_name (fun I4 hI4 => ?_)
    have K := K I4 hI4
    refine zg_iastore dX4_addRunner_29 (hq.s4) (hq.lt 4 (Nat.le_of_ble_eq_true rfl)) o3 ?_
    refine zi_aload_n dX4_addRunner_30 rfl rfl ?_
    refine zg_getF (k := 9) (v := .ref (q + 5)) dX4_addRunner_31 zc4 hq.sh hq.l0 (Nat.le_of_ble_eq_true rfl) u_71 rfl (hq.f9) ?_
    refine zi_aload_n dX4_addRunner_34 rfl rfl ?_
    refine zg_getI (k := 2) dX4_addRunner_35 zc4 hq.sh hq.l0 (Nat.le_of_ble_eq_true rfl) u_47 rfl ?_
    refine zi_iload_n dX4_addRunner_38 rfl rfl ?_
    have o5 := K.1
    have K := K.2
    refine zi_name (fun I6 hI6 => ?_)
    have K := K I6 hI6
    refine zg_iastore dX4_addRunner_39 (hq.s5) (hq.lt 5 (Nat.le_of_ble_eq_true rfl)) o5 ?_
    refine zi_iconst (v := 0) dX4_addRunner_40 (by decide) ?_
    refine zi_istore (ls' := [some (.ref q), some (.int x1), some (.int x2), some (.int x3), some (.int 0)]) dX4_addRunner_41 (by decide) rfl ?_
    exact K
  · have K := K.2 c1
    subst K
    exact zi_return dX4_addRunner_9 rfl
set_option maxRecDepth 100000 in
theorem tX4_addRunner_43 {G : zG} {d b : Nat} {q : Nat} {I : Nat → Nat → Int32} {L : Nat → Nat → Int64} {R : zR} {x1 : Int32} {x2 : Int32} {x3 : Int32} {x4 : Int32} (hq : zhl q) (hR : zR0 R)
    (K : ((8 ≤ x4 → R = (none, zh b (zup I q 2 ((I q 2) + 1)) L)) ∧ (¬ 8 ≤ x4 → (vp_in (((I q 2) * 8) + x4) 48 ∧ zA G (d + 1) mX4_addRunner 43 [some (.ref q), some (.int x1), some (.int x2), some (.int x3), some (.int (x4 + 1))] [] (zh b (zup I (q + 6) (zx (((I q 2) * 8) + x4)) 0) L) R)))) :
    zA G (d + 1) mX4_addRunner 43 [some (.ref q), some (.int x1), some (.int x2), some (.int x3), some (.int x4)] [] (zh b I L) R := by
  refine zi_iload dX4_addRunner_43 rfl ?_
  refine zi_bipush (v := 8) dX4_addRunner_45 (by decide) ?_
  refine zi_icmp_ge (tgt := 71) dX4_addRunner_47 (by decide) (fun c1 => ?_) (fun c1 => ?_)
  · have K := K.1 c1
    refine zi_aload_n dX4_addRunner_71 rfl rfl ?_
    refine zi_dup dX4_addRunner_72 rfl ?_
    refine zg_getI (k := 2) dX4_addRunner_73 zc4 hq.sh hq.l0 (Nat.le_of_ble_eq_true rfl) u_47 rfl ?_
    refine zi_iconst (v := 1) dX4_addRunner_76 (by decide) ?_
    refine zi_iadd dX4_addRunner_77 ?_
    refine zg_putI (k := 2) dX4_addRunner_78 zc4 hq.sh hq.l0 (Nat.le_of_ble_eq_true rfl) u_47 rfl rfl ?_
    subst K
    exact zi_return dX4_addRunner_81 rfl
  · have K := K.2 c1
    refine zi_aload_n dX4_addRunner_50 rfl rfl ?_
    refine zg_getF (k := 10) (v := .ref (q + 6)) dX4_addRunner_51 zc4 hq.sh hq.l0 (Nat.le_of_ble_eq_true rfl) u_73 rfl (hq.f10) ?_
    refine zi_aload_n dX4_addRunner_54 rfl rfl ?_
    refine zg_getI (k := 2) dX4_addRunner_55 zc4 hq.sh hq.l0 (Nat.le_of_ble_eq_true rfl) u_47 rfl ?_
    refine zi_iload dX4_addRunner_58 rfl ?_
    refine zi_callSN (N := mX11_onLine) (av := [.int (I q 2), .int x4]) (st := [.ref (q + 6)]) (R1 := (some (.int (((I q 2) * 8) + x4)), zh b I L)) dX4_addRunner_60 okX11_onLine (by decide) u_334 arX11_onLine rfl (Nat.le_of_ble_eq_true rfl) (kX11_onLine _ _) hR ?_
    show zA G (d + 1) mX4_addRunner 63 [some (.ref q), some (.int x1), some (.int x2), some (.int x3), some (.int x4)] [.int (((I q 2) * 8) + x4), .ref (q + 6)] (zh b I L) R
    refine zi_iconst (v := 0) dX4_addRunner_63 (by decide) ?_
    have o2 := K.1
    have K := K.2
    refine zg_iastore dX4_addRunner_64 (hq.s6) (hq.lt 6 (Nat.le_of_ble_eq_true rfl)) o2 ?_
    refine zi_iinc (v := x4 + 1) (ls' := [some (.ref q), some (.int x1), some (.int x2), some (.int x3), some (.int (x4 + 1))]) dX4_addRunner_65 rfl (by decide) rfl rfl ?_
    refine zi_goto (tgt := 43) dX4_addRunner_68 (by decide) ?_
    exact K
set_option maxRecDepth 100000 in
theorem tX4_keepSlopes_0 {G : zG} {d b : Nat} {q : Nat} {I : Nat → Nat → Int32} {L : Nat → Nat → Int64} {R : zR}  (hq : zhl q)
    (K : (((I q 4) < 6 → (((¬ (0 : Int32) < 0 ∧ ¬ ((I q 4) * 48) < 0 ∧ ¬ (48 : Int32) < 0) ∧ zx 0 + zx 48 ≤ 48 ∧ zx ((I q 4) * 48) + zx 48 ≤ 288) ∧ (∀ I3 : Nat → Nat → Int32, I3 = (zrow I (q + 8) (va_cpy (I (q + 1)) (I (q + 8)) (zx 0) (zx ((I q 4) * 48)) (zx 48))) → R = (none, zh b (zup I3 q 4 (((zrow I (q + 8) (va_cpy (I (q + 1)) (I (q + 8)) (zx 0) (zx ((I q 4) * 48)) (zx 48))) q 4) + 1)) L)))) ∧ (¬ (I q 4) < 6 → (((¬ (48 : Int32) < 0 ∧ ¬ (0 : Int32) < 0 ∧ ¬ (240 : Int32) < 0) ∧ zx 48 + zx 240 ≤ 288 ∧ zx 0 + zx 240 ≤ 288) ∧ (∀ I5 : Nat → Nat → Int32, I5 = (zrow I (q + 8) (va_cpy (I (q + 8)) (I (q + 8)) (zx 48) (zx 0) (zx 240))) → (∀ I6 : Nat → Nat → Int32, I6 = (zup I5 q 4 5) → (((¬ (0 : Int32) < 0 ∧ ¬ (((zup I5 q 4 5) q 4) * 48) < 0 ∧ ¬ (48 : Int32) < 0) ∧ zx 0 + zx 48 ≤ 48 ∧ zx (((zup I5 q 4 5) q 4) * 48) + zx 48 ≤ 288) ∧ (∀ I8 : Nat → Nat → Int32, I8 = (zrow I6 (q + 8) (va_cpy (I6 (q + 1)) (I6 (q + 8)) (zx 0) (zx (((zup I5 q 4 5) q 4) * 48)) (zx 48))) → R = (none, zh b (zup I8 q 4 (((zrow I6 (q + 8) (va_cpy (I6 (q + 1)) (I6 (q + 8)) (zx 0) (zx (((zup I5 q 4 5) q 4) * 48)) (zx 48))) q 4) + 1)) L))))))))) :
    zA G (d + 1) mX4_keepSlopes 0 [some (.ref q)] [] (zh b I L) R := by
  refine zi_aload_n dX4_keepSlopes_0 rfl rfl ?_
  refine zg_getI (k := 4) dX4_keepSlopes_1 zc4 hq.sh hq.l0 (Nat.le_of_ble_eq_true rfl) u_52 rfl ?_
  refine zi_bipush (v := 6) dX4_keepSlopes_4 (by decide) ?_
  refine zi_icmp_lt (tgt := 31) dX4_keepSlopes_6 (by decide) (fun c1 => ?_) (fun c1 => ?_)
  · have K := K.1 c1
    refine zi_aload_n dX4_keepSlopes_31 rfl rfl ?_
    refine zg_getF (k := 5) (v := .ref (q + 1)) dX4_keepSlopes_32 zc4 hq.sh hq.l0 (Nat.le_of_ble_eq_true rfl) u_54 rfl (hq.f5) ?_
    refine zi_iconst (v := 0) dX4_keepSlopes_35 (by decide) ?_
    refine zi_aload_n dX4_keepSlopes_36 rfl rfl ?_
    refine zg_getF (k := 12) (v := .ref (q + 8)) dX4_keepSlopes_37 zc4 hq.sh hq.l0 (Nat.le_of_ble_eq_true rfl) u_79 rfl (hq.f12) ?_
    refine zi_aload_n dX4_keepSlopes_40 rfl rfl ?_
    refine zg_getI (k := 4) dX4_keepSlopes_41 zc4 hq.sh hq.l0 (Nat.le_of_ble_eq_true rfl) u_52 rfl ?_
    refine zi_bipush (v := 48) dX4_keepSlopes_44 (by decide) ?_
    refine zi_imul dX4_keepSlopes_46 ?_
    refine zi_bipush (v := 48) dX4_keepSlopes_47 (by decide) ?_
    have o2 := K.1
    have K := K.2
    refine zg_copy dX4_keepSlopes_49 u_702 (hq.lt 1 (Nat.le_of_ble_eq_true rfl)) (hq.lt 8 (Nat.le_of_ble_eq_true rfl)) (hq.s1) (hq.s8) o2 (Nat.le_of_ble_eq_true rfl) ?_
    refine zi_aload_n dX4_keepSlopes_52 rfl rfl ?_
    refine zi_dup dX4_keepSlopes_53 rfl ?_
    refine zg_getI (k := 4) dX4_keepSlopes_54 zc4 hq.sh hq.l0 (Nat.le_of_ble_eq_true rfl) u_52 rfl ?_
    refine zi_iconst (v := 1) dX4_keepSlopes_57 (by decide) ?_
    refine zi_iadd dX4_keepSlopes_58 ?_
    refine zi_name (fun I3 hI3 => ?_)
    have K := K I3 hI3
    refine zg_putI (k := 4) dX4_keepSlopes_59 zc4 hq.sh hq.l0 (Nat.le_of_ble_eq_true rfl) u_52 rfl rfl ?_
    subst K
    exact zi_return dX4_keepSlopes_62 rfl
  · have K := K.2 c1
    refine zi_aload_n dX4_keepSlopes_9 rfl rfl ?_
    refine zg_getF (k := 12) (v := .ref (q + 8)) dX4_keepSlopes_10 zc4 hq.sh hq.l0 (Nat.le_of_ble_eq_true rfl) u_79 rfl (hq.f12) ?_
    refine zi_bipush (v := 48) dX4_keepSlopes_13 (by decide) ?_
    refine zi_aload_n dX4_keepSlopes_15 rfl rfl ?_
    refine zg_getF (k := 12) (v := .ref (q + 8)) dX4_keepSlopes_16 zc4 hq.sh hq.l0 (Nat.le_of_ble_eq_true rfl) u_79 rfl (hq.f12) ?_
    refine zi_iconst (v := 0) dX4_keepSlopes_19 (by decide) ?_
    refine zi_sipush (v := 240) dX4_keepSlopes_20 (by decide) ?_
    have o4 := K.1
    have K := K.2
    refine zg_copy dX4_keepSlopes_23 u_702 (hq.lt 8 (Nat.le_of_ble_eq_true rfl)) (hq.lt 8 (Nat.le_of_ble_eq_true rfl)) (hq.s8) (hq.s8) o4 (Nat.le_of_ble_eq_true rfl) ?_
    refine zi_aload_n dX4_keepSlopes_26 rfl rfl ?_
    refine zi_iconst (v := 5) dX4_keepSlopes_27 (by decide) ?_
    refine zi_name (fun I5 hI5 => ?_)
    have K := K I5 hI5
    refine zg_putI (k := 4) dX4_keepSlopes_28 zc4 hq.sh hq.l0 (Nat.le_of_ble_eq_true rfl) u_52 rfl rfl ?_
    refine zi_aload_n dX4_keepSlopes_31 rfl rfl ?_
    refine zg_getF (k := 5) (v := .ref (q + 1)) dX4_keepSlopes_32 zc4 hq.sh hq.l0 (Nat.le_of_ble_eq_true rfl) u_54 rfl (hq.f5) ?_
    refine zi_iconst (v := 0) dX4_keepSlopes_35 (by decide) ?_
    refine zi_aload_n dX4_keepSlopes_36 rfl rfl ?_
    refine zg_getF (k := 12) (v := .ref (q + 8)) dX4_keepSlopes_37 zc4 hq.sh hq.l0 (Nat.le_of_ble_eq_true rfl) u_79 rfl (hq.f12) ?_
    refine zi_aload_n dX4_keepSlopes_40 rfl rfl ?_
    refine zg_getI (k := 4) dX4_keepSlopes_41 zc4 hq.sh hq.l0 (Nat.le_of_ble_eq_true rfl) u_52 rfl ?_
    refine zi_bipush (v := 48) dX4_keepSlopes_44 (by decide) ?_
    refine zi_imul dX4_keepSlopes_46 ?_
    refine zi_bipush (v := 48) dX4_keepSlopes_47 (by decide) ?_
    refine zi_name (fun I6 hI6 => ?_)
    have K := K I6 hI6
    have o7 := K.1
    have K := K.2
    refine zg_copy dX4_keepSlopes_49 u_702 (hq.lt 1 (Nat.le_of_ble_eq_true rfl)) (hq.lt 8 (Nat.le_of_ble_eq_true rfl)) (hq.s1) (hq.s8) o7 (Nat.le_of_ble_eq_true rfl) ?_
    refine zi_aload_n dX4_keepSlopes_52 rfl rfl ?_
    refine zi_dup dX4_keepSlopes_53 rfl ?_
    refine zg_getI (k := 4) dX4_keepSlopes_54 zc4 hq.sh hq.l0 (Nat.le_of_ble_eq_true rfl) u_52 rfl ?_
    refine zi_iconst (v := 1) dX4_keepSlopes_57 (by decide) ?_
    refine zi_iadd dX4_keepSlopes_58 ?_
    refine zi_name (fun I8 hI8 => ?_)
    have K := K I8 hI8
    refine zg_putI (k := 4) dX4_keepSlopes_59 zc4 hq.sh hq.l0 (Nat.le_of_ble_eq_true rfl) u_52 rfl rfl ?_
    subst K
    exact zi_return dX4_keepSlopes_62 rfl
set_option maxRecDepth 100000 in
theorem tX4_bringSlopesBack_0 {G : zG} {d b : Nat} {q : Nat} {I : Nat → Nat → Int32} {L : Nat → Nat → Int64} {R : zR}  (hq : zhl q)
    (K : (((I q 4) ≤ 0 → R = (none, zh b I L)) ∧ (¬ (I q 4) ≤ 0 → (∀ I2 : Nat → Nat → Int32, I2 = (zup I q 4 ((I q 4) - 1)) → (((¬ (((zup I q 4 ((I q 4) - 1)) q 4) * 48) < 0 ∧ ¬ (0 : Int32) < 0 ∧ ¬ (48 : Int32) < 0) ∧ zx (((zup I q 4 ((I q 4) - 1)) q 4) * 48) + zx 48 ≤ 288 ∧ zx 0 + zx 48 ≤ 48) ∧ R = (none, zh b (zrow I2 (q + 1) (va_cpy (I2 (q + 8)) (I2 (q + 1)) (zx (((zup I q 4 ((I q 4) - 1)) q 4) * 48)) (zx 0) (zx 48))) L)))))) :
    zA G (d + 1) mX4_bringSlopesBack 0 [some (.ref q)] [] (zh b I L) R := by
  refine zi_aload_n dX4_bringSlopesBack_0 rfl rfl ?_
  refine zg_getI (k := 4) dX4_bringSlopesBack_1 zc4 hq.sh hq.l0 (Nat.le_of_ble_eq_true rfl) u_52 rfl ?_
  refine zi_if_le (tgt := 38) dX4_bringSlopesBack_4 (by decide) (fun c1 => ?_) (fun c1 => ?_)
  · have K := K.1 c1
    subst K
    exact zi_return dX4_bringSlopesBack_38 rfl
  · have K := K.2 c1
    refine zi_aload_n dX4_bringSlopesBack_7 rfl rfl ?_
    refine zi_dup dX4_bringSlopesBack_8 rfl ?_
    refine zg_getI (k := 4) dX4_bringSlopesBack_9 zc4 hq.sh hq.l0 (Nat.le_of_ble_eq_true rfl) u_52 rfl ?_
    refine zi_iconst (v := 1) dX4_bringSlopesBack_12 (by decide) ?_
    refine zi_isub dX4_bringSlopesBack_13 ?_
    refine zg_putI (k := 4) dX4_bringSlopesBack_14 zc4 hq.sh hq.l0 (Nat.le_of_ble_eq_true rfl) u_52 rfl rfl ?_
    refine zi_aload_n dX4_bringSlopesBack_17 rfl rfl ?_
    refine zg_getF (k := 12) (v := .ref (q + 8)) dX4_bringSlopesBack_18 zc4 hq.sh hq.l0 (Nat.le_of_ble_eq_true rfl) u_79 rfl (hq.f12) ?_
    refine zi_aload_n dX4_bringSlopesBack_21 rfl rfl ?_
    refine zg_getI (k := 4) dX4_bringSlopesBack_22 zc4 hq.sh hq.l0 (Nat.le_of_ble_eq_true rfl) u_52 rfl ?_
    refine zi_bipush (v := 48) dX4_bringSlopesBack_25 (by decide) ?_
    refine zi_imul dX4_bringSlopesBack_27 ?_
    refine zi_aload_n dX4_bringSlopesBack_28 rfl rfl ?_
    refine zg_getF (k := 5) (v := .ref (q + 1)) dX4_bringSlopesBack_29 zc4 hq.sh hq.l0 (Nat.le_of_ble_eq_true rfl) u_54 rfl (hq.f5) ?_
    refine zi_iconst (v := 0) dX4_bringSlopesBack_32 (by decide) ?_
    refine zi_bipush (v := 48) dX4_bringSlopesBack_33 (by decide) ?_
    refine zi_name (fun I2 hI2 => ?_)
    have K := K I2 hI2
    have o3 := K.1
    have K := K.2
    refine zg_copy dX4_bringSlopesBack_35 u_702 (hq.lt 8 (Nat.le_of_ble_eq_true rfl)) (hq.lt 1 (Nat.le_of_ble_eq_true rfl)) (hq.s8) (hq.s1) o3 (Nat.le_of_ble_eq_true rfl) ?_
    subst K
    exact zi_return dX4_bringSlopesBack_38 rfl
set_option maxRecDepth 100000 in
theorem tX4_mostHurt_0 {G : zG} {d b : Nat} {q : Nat} {I : Nat → Nat → Int32} {L : Nat → Nat → Int64} {R : zR} 
    (K : zA G (d + 1) mX4_mostHurt 4 [some (.ref q), some (.int 0), some (.int 0)] [] (zh b I L) R) :
    zA G (d + 1) mX4_mostHurt 0 [some (.ref q), none, none] [] (zh b I L) R := by
  refine zi_iconst (v := 0) dX4_mostHurt_0 (by decide) ?_
  refine zi_istore_n (ls' := [some (.ref q), some (.int 0), none]) dX4_mostHurt_1 rfl (by decide) rfl ?_
  refine zi_iconst (v := 0) dX4_mostHurt_2 (by decide) ?_
  refine zi_istore_n (ls' := [some (.ref q), some (.int 0), some (.int 0)]) dX4_mostHurt_3 rfl (by decide) rfl ?_
  exact K
set_option maxRecDepth 100000 in
theorem tX4_mostHurt_4 {G : zG} {d b : Nat} {q : Nat} {I : Nat → Nat → Int32} {L : Nat → Nat → Int64} {R : zR} {x1 : Int32} {x2 : Int32} (hq : zhl q) (hR : zR0 R)
    (K : (((I q 3) ≤ x2 → R = (some (.int x1), zh b I L)) ∧ (¬ (I q 3) ≤ x2 → (vp_in x2 8 ∧ zA G (d + 1) mX4_mostHurt 4 [some (.ref q), some (.int (if x1 < (I (q + 7) (zx x2)) then (I (q + 7) (zx x2)) else x1)), some (.int (x2 + 1))] [] (zh b I L) R)))) :
    zA G (d + 1) mX4_mostHurt 4 [some (.ref q), some (.int x1), some (.int x2)] [] (zh b I L) R := by
  refine zi_iload_n dX4_mostHurt_4 rfl rfl ?_
  refine zi_aload_n dX4_mostHurt_5 rfl rfl ?_
  refine zg_getI (k := 3) dX4_mostHurt_6 zc4 hq.sh hq.l0 (Nat.le_of_ble_eq_true rfl) u_50 rfl ?_
  refine zi_icmp_ge (tgt := 29) dX4_mostHurt_9 (by decide) (fun c1 => ?_) (fun c1 => ?_)
  · have K := K.1 c1
    refine zi_iload_n dX4_mostHurt_29 rfl rfl ?_
    subst K
    exact zi_ireturn dX4_mostHurt_30 rfl rfl
  · have K := K.2 c1
    refine zi_iload_n dX4_mostHurt_12 rfl rfl ?_
    refine zi_aload_n dX4_mostHurt_13 rfl rfl ?_
    refine zg_getF (k := 11) (v := .ref (q + 7)) dX4_mostHurt_14 zc4 hq.sh hq.l0 (Nat.le_of_ble_eq_true rfl) u_77 rfl (hq.f11) ?_
    refine zi_iload_n dX4_mostHurt_17 rfl rfl ?_
    have o2 := K.1
    have K := K.2
    refine zg_iaload dX4_mostHurt_18 (hq.s7) (hq.lt 7 (Nat.le_of_ble_eq_true rfl)) o2 ?_
    refine zg_max dX4_mostHurt_19 u_736 (Nat.le_of_ble_eq_true rfl) hR ?_
    refine zi_istore_n (ls' := [some (.ref q), some (.int (if x1 < (I (q + 7) (zx x2)) then (I (q + 7) (zx x2)) else x1)), some (.int x2)]) dX4_mostHurt_22 rfl (by decide) rfl ?_
    refine zi_iinc (v := x2 + 1) (ls' := [some (.ref q), some (.int (if x1 < (I (q + 7) (zx x2)) then (I (q + 7) (zx x2)) else x1)), some (.int (x2 + 1))]) dX4_mostHurt_23 rfl (by decide) rfl rfl ?_
    refine zi_goto (tgt := 4) dX4_mostHurt_26 (by decide) ?_
    exact K
set_option maxRecDepth 100000 in
theorem tX1_roll_0 {G : zG} {d b : Nat} {I : Nat → Nat → Int32} {L : Nat → Nat → Int64} {R : zR} {x2 : Int32} {o : Nat} (ho : zhl o) (hR : zR0 R)
    (K : (∃ (I1 : Nat → Nat → Int32), zCall d mJ7_fill_53178 [.ref 51, .int 0] (zh b I L) (none, zh b I1 L) ∧ (vp_in x2 6 ∧ zA G (d + 1) mX1_roll 22 [some (.ref 50), some (.ref o), some (.int x2), some (.int 0), none] [] (zh b (zup I1 51 (zx x2) (1 <<< ((I1 o 0) &&& 31))) L) R))) :
    zA G (d + 1) mX1_roll 0 [some (.ref 50), some (.ref o), some (.int x2), none, none] [] (zh b I L) R := by
  refine zi_aload_n dX1_roll_0 rfl rfl ?_
  refine zg_getF (k := 0) (v := .ref 51) dX1_roll_1 zc1 rfl (Nat.le_of_ble_eq_true rfl) (Nat.le_of_ble_eq_true rfl) u_205 rfl (rfl) ?_
  refine zi_iconst (v := 0) dX1_roll_4 (by decide) ?_
  obtain ⟨I1, h2, K⟩ := K
  refine zi_callS (N := mJ7_fill_53178) (av := [.ref 51, .int 0]) (st := []) (R1 := (none, zh b I1 L)) dX1_roll_5 okJ7_fill_53178 u_646 u_242 arJ7_fill_53178 rfl (Nat.le_of_ble_eq_true rfl) (h2) hR ?_
  show zA G (d + 1) mX1_roll 8 [some (.ref 50), some (.ref o), some (.int x2), none, none] [] (zh b I1 L) R
  refine zi_aload_n dX1_roll_8 rfl rfl ?_
  refine zg_getF (k := 0) (v := .ref 51) dX1_roll_9 zc1 rfl (Nat.le_of_ble_eq_true rfl) (Nat.le_of_ble_eq_true rfl) u_205 rfl (rfl) ?_
  refine zi_iload_n dX1_roll_12 rfl rfl ?_
  refine zi_iconst (v := 1) dX1_roll_13 (by decide) ?_
  refine zi_aload_n dX1_roll_14 rfl rfl ?_
  refine zg_getI (k := 0) dX1_roll_15 zc4 ho.sh ho.l0 (Nat.le_of_ble_eq_true rfl) u_37 rfl ?_
  refine zi_ishl dX1_roll_18 ?_
  have o3 := K.1
  have K := K.2
  refine zg_iastore dX1_roll_19 (rfl) (Nat.le_of_ble_eq_true rfl) o3 ?_
  refine zi_iconst (v := 0) dX1_roll_20 (by decide) ?_
  refine zi_istore_n (ls' := [some (.ref 50), some (.ref o), some (.int x2), some (.int 0), none]) dX1_roll_21 rfl (by decide) rfl ?_
  exact K
set_option maxRecDepth 100000 in
theorem tX1_roll_22 {G : zG} {d b : Nat} {I : Nat → Nat → Int32} {L : Nat → Nat → Int64} {R : zR} {x2 : Int32} {x3 : Int32} {o : Nat} (ho : zhl o) (hR : zR0 R)
    (K : (((I o 0) ≤ x3 → R = (none, zh b I L)) ∧ (¬ (I o 0) ≤ x3 → (∃ (I2 : Nat → Nat → Int32), zCall d mJ7_fill_53178 [.ref 52, .int 0] (zh b I L) (none, zh b I2 L) ∧ zA G (d + 1) mX1_roll 41 [some (.ref 50), some (.ref o), some (.int x2), some (.int x3), some (.int 0)] [] (zh b I2 L) R)))) :
    zA G (d + 1) mX1_roll 22 [some (.ref 50), some (.ref o), some (.int x2), some (.int x3), none] [] (zh b I L) R := by
  refine zi_iload_n dX1_roll_22 rfl rfl ?_
  refine zi_aload_n dX1_roll_23 rfl rfl ?_
  refine zg_getI (k := 0) dX1_roll_24 zc4 ho.sh ho.l0 (Nat.le_of_ble_eq_true rfl) u_37 rfl ?_
  refine zi_icmp_ge (tgt := 160) dX1_roll_27 (by decide) (fun c1 => ?_) (fun c1 => ?_)
  · have K := K.1 c1
    subst K
    exact zi_return dX1_roll_160 rfl
  · have K := K.2 c1
    refine zi_aload_n dX1_roll_30 rfl rfl ?_
    refine zg_getF (k := 1) (v := .ref 52) dX1_roll_31 zc1 rfl (Nat.le_of_ble_eq_true rfl) (Nat.le_of_ble_eq_true rfl) u_207 rfl (rfl) ?_
    refine zi_iconst (v := 0) dX1_roll_34 (by decide) ?_
    obtain ⟨I2, h3, K⟩ := K
    refine zi_callS (N := mJ7_fill_53178) (av := [.ref 52, .int 0]) (st := []) (R1 := (none, zh b I2 L)) dX1_roll_35 okJ7_fill_53178 u_646 u_242 arJ7_fill_53178 rfl (Nat.le_of_ble_eq_true rfl) (h3) hR ?_
    show zA G (d + 1) mX1_roll 38 [some (.ref 50), some (.ref o), some (.int x2), some (.int x3), none] [] (zh b I2 L) R
    refine zi_iconst (v := 0) dX1_roll_38 (by decide) ?_
    refine zi_istore (ls' := [some (.ref 50), some (.ref o), some (.int x2), some (.int x3), some (.int 0)]) dX1_roll_39 (by decide) rfl ?_
    exact K
set_option maxRecDepth 100000 in
theorem tX1_roll_41 {G : zG} {d b : Nat} {I : Nat → Nat → Int32} {L : Nat → Nat → Int64} {R : zR} {x2 : Int32} {x3 : Int32} {x4 : Int32} {o : Nat} (ho : zhl o) (hR : zR0 R)
    (K : (((I o 1) ≤ x4 → (((¬ (0 : Int32) < 0 ∧ ¬ (0 : Int32) < 0 ∧ ¬ (6 : Int32) < 0) ∧ zx 0 + zx 6 ≤ 6 ∧ zx 0 + zx 6 ≤ 6) ∧ zA G (d + 1) mX1_roll 22 [some (.ref 50), some (.ref o), some (.int x2), some (.int (x3 + 1)), none] [] (zh b (zrow I 51 (va_cpy (I 52) (I 51) (zx 0) (zx 0) (zx 6))) L) R)) ∧ (¬ (I o 1) ≤ x4 → (vp_in ((x3 * 6) + x4) 48 ∧ ((¬ (I (o + 2) (zx ((x3 * 6) + x4))) = 1 → (vp_in x4 6 ∧ (vp_in x4 6 ∧ (vp_in x4 6 ∧ zA G (d + 1) mX1_roll 41 [some (.ref 50), some (.ref o), some (.int x2), some (.int x3), some (.int (x4 + 1))] [] (zh b (zup I 52 (zx x4) ((I 52 (zx x4)) + (I 51 (zx x4)))) L) R)))) ∧ ((I (o + 2) (zx ((x3 * 6) + x4))) = 1 → (vp_in (zlb (I o 1) x4 1) 6 ∧ (vp_in x4 6 ∧ (vp_in (zlb (I o 1) x4 1) 6 ∧ (vp_in (zlb ((zup I 52 (zx (zlb (I o 1) x4 1)) ((I 52 (zx (zlb (I o 1) x4 1))) + ((I 51 (zx x4)) / 2))) o 1) x4 2) 6 ∧ (vp_in x4 6 ∧ (vp_in (zlb ((zup I 52 (zx (zlb (I o 1) x4 1)) ((I 52 (zx (zlb (I o 1) x4 1))) + ((I 51 (zx x4)) / 2))) o 1) x4 2) 6 ∧ (∀ I14 : Nat → Nat → Int32, I14 = (zup I 52 (zx (zlb (I o 1) x4 1)) ((I 52 (zx (zlb (I o 1) x4 1))) + ((I 51 (zx x4)) / 2))) → zA G (d + 1) mX1_roll 41 [some (.ref 50), some (.ref o), some (.int x2), some (.int x3), some (.int (x4 + 1))] [] (zh b (zup I14 52 (zx (zlb ((zup I 52 (zx (zlb (I o 1) x4 1)) ((I 52 (zx (zlb (I o 1) x4 1))) + ((I 51 (zx x4)) / 2))) o 1) x4 2)) (((zup I 52 (zx (zlb (I o 1) x4 1)) ((I 52 (zx (zlb (I o 1) x4 1))) + ((I 51 (zx x4)) / 2))) 52 (zx (zlb ((zup I 52 (zx (zlb (I o 1) x4 1)) ((I 52 (zx (zlb (I o 1) x4 1))) + ((I 51 (zx x4)) / 2))) o 1) x4 2))) + (((zup I 52 (zx (zlb (I o 1) x4 1)) ((I 52 (zx (zlb (I o 1) x4 1))) + ((I 51 (zx x4)) / 2))) 51 (zx x4)) / 2))) L) R))))))))))))) :
    zA G (d + 1) mX1_roll 41 [some (.ref 50), some (.ref o), some (.int x2), some (.int x3), some (.int x4)] [] (zh b I L) R := by
  refine zi_iload dX1_roll_41 rfl ?_
  refine zi_aload_n dX1_roll_43 rfl rfl ?_
  refine zg_getI (k := 1) dX1_roll_44 zc4 ho.sh ho.l0 (Nat.le_of_ble_eq_true rfl) u_43 rfl ?_
  refine zi_icmp_ge (tgt := 139) dX1_roll_47 (by decide) (fun c1 => ?_) (fun c1 => ?_)
  · have K := K.1 c1
    refine zi_aload_n dX1_roll_139 rfl rfl ?_
    refine zg_getF (k := 1) (v := .ref 52) dX1_roll_140 zc1 rfl (Nat.le_of_ble_eq_true rfl) (Nat.le_of_ble_eq_true rfl) u_207 rfl (rfl) ?_
    refine zi_iconst (v := 0) dX1_roll_143 (by decide) ?_
    refine zi_aload_n dX1_roll_144 rfl rfl ?_
    refine zg_getF (k := 0) (v := .ref 51) dX1_roll_145 zc1 rfl (Nat.le_of_ble_eq_true rfl) (Nat.le_of_ble_eq_true rfl) u_205 rfl (rfl) ?_
    refine zi_iconst (v := 0) dX1_roll_148 (by decide) ?_
    refine zi_bipush (v := 6) dX1_roll_149 (by decide) ?_
    have o2 := K.1
    have K := K.2
    refine zg_copy dX1_roll_151 u_649 (Nat.le_of_ble_eq_true rfl) (Nat.le_of_ble_eq_true rfl) (rfl) (rfl) o2 (Nat.le_of_ble_eq_true rfl) ?_
    refine zi_iinc (v := x3 + 1) (ls' := [some (.ref 50), some (.ref o), some (.int x2), some (.int (x3 + 1)), some (.int x4)]) dX1_roll_154 rfl (by decide) rfl rfl ?_
    refine zi_goto (tgt := 22) dX1_roll_157 (by decide) ?_
    refine zi_mask [true, true, true, true, false] rfl ?_
    exact K
  · have K := K.2 c1
    refine zi_aload_n dX1_roll_50 rfl rfl ?_
    refine zg_getF (k := 6) (v := .ref (o + 2)) dX1_roll_51 zc4 ho.sh ho.l0 (Nat.le_of_ble_eq_true rfl) u_60 rfl (ho.f6) ?_
    refine zi_iload_n dX1_roll_54 rfl rfl ?_
    refine zi_iload dX1_roll_55 rfl ?_
    refine zi_callSN (N := mX11_cell) (av := [.int x3, .int x4]) (st := [.ref (o + 2)]) (R1 := (some (.int ((x3 * 6) + x4)), zh b I L)) dX1_roll_57 okX11_cell (by decide) u_315 arX11_cell rfl (Nat.le_of_ble_eq_true rfl) (kX11_cell _ _) hR ?_
    show zA G (d + 1) mX1_roll 60 [some (.ref 50), some (.ref o), some (.int x2), some (.int x3), some (.int x4)] [.int ((x3 * 6) + x4), .ref (o + 2)] (zh b I L) R
    have o3 := K.1
    have K := K.2
    refine zg_iaload dX1_roll_60 (ho.s2) (ho.lt 2 (Nat.le_of_ble_eq_true rfl)) o3 ?_
    refine zi_iconst (v := 1) dX1_roll_61 (by decide) ?_
    refine zi_icmp_ne (tgt := 116) dX1_roll_62 (by decide) (fun c4 => ?_) (fun c4 => ?_)
    · have K := K.1 c4
      refine zi_aload_n dX1_roll_116 rfl rfl ?_
      refine zg_getF (k := 1) (v := .ref 52) dX1_roll_117 zc1 rfl (Nat.le_of_ble_eq_true rfl) (Nat.le_of_ble_eq_true rfl) u_207 rfl (rfl) ?_
      refine zi_iload dX1_roll_120 rfl ?_
      refine zi_dup2 dX1_roll_122 rfl rfl ?_
      have o5 := K.1
      have K := K.2
      refine zg_iaload dX1_roll_123 (rfl) (Nat.le_of_ble_eq_true rfl) o5 ?_
      refine zi_aload_n dX1_roll_124 rfl rfl ?_
      refine zg_getF (k := 0) (v := .ref 51) dX1_roll_125 zc1 rfl (Nat.le_of_ble_eq_true rfl) (Nat.le_of_ble_eq_true rfl) u_205 rfl (rfl) ?_
      refine zi_iload dX1_roll_128 rfl ?_
      have o6 := K.1
      have K := K.2
      refine zg_iaload dX1_roll_130 (rfl) (Nat.le_of_ble_eq_true rfl) o6 ?_
      refine zi_iadd dX1_roll_131 ?_
      have o7 := K.1
      have K := K.2
      refine zg_iastore dX1_roll_132 (rfl) (Nat.le_of_ble_eq_true rfl) o7 ?_
      refine zi_iinc (v := x4 + 1) (ls' := [some (.ref 50), some (.ref o), some (.int x2), some (.int x3), some (.int (x4 + 1))]) dX1_roll_133 rfl (by decide) rfl rfl ?_
      refine zi_goto (tgt := 41) dX1_roll_136 (by decide) ?_
      exact K
    · have K := K.2 c4
      refine zi_aload_n dX1_roll_65 rfl rfl ?_
      refine zg_getF (k := 1) (v := .ref 52) dX1_roll_66 zc1 rfl (Nat.le_of_ble_eq_true rfl) (Nat.le_of_ble_eq_true rfl) u_207 rfl (rfl) ?_
      refine zi_aload_n dX1_roll_69 rfl rfl ?_
      refine zi_iload dX1_roll_70 rfl ?_
      refine zi_iconst (v := 1) dX1_roll_72 (by decide) ?_
      refine zi_callV (N := mX4_laneBeyond) (av := [.int x4, .int 1]) (st := [.ref 52]) (R1 := (some (.int (zlb (I o 1) x4 1)), zh b I L)) dX1_roll_73 okX4_laneBeyond u_648 u_554 u_555 zc4 (ho.sh) ho.l0 arX4_laneBeyond rfl (Nat.le_of_ble_eq_true rfl) (kX4_laneBeyond ho _ _) hR ?_
      show zA G (d + 1) mX1_roll 76 [some (.ref 50), some (.ref o), some (.int x2), some (.int x3), some (.int x4)] [.int (zlb (I o 1) x4 1), .ref 52] (zh b I L) R
      refine zi_dup2 dX1_roll_76 rfl rfl ?_
      have o8 := K.1
      have K := K.2
      refine zg_iaload dX1_roll_77 (rfl) (Nat.le_of_ble_eq_true rfl) o8 ?_
      refine zi_aload_n dX1_roll_78 rfl rfl ?_
      refine zg_getF (k := 0) (v := .ref 51) dX1_roll_79 zc1 rfl (Nat.le_of_ble_eq_true rfl) (Nat.le_of_ble_eq_true rfl) u_205 rfl (rfl) ?_
      refine zi_iload dX1_roll_82 rfl ?_
      have o9 := K.1
      have K := K.2
      refine zg_iaload dX1_roll_84 (rfl) (Nat.le_of_ble_eq_true rfl) o9 ?_
      refine zi_iconst (v := 2) dX1_roll_85 (by decide) ?_
      refine zi_idiv dX1_roll_86 (by decide) ?_
      refine zi_iadd dX1_roll_87 ?_
      have o10 := K.1
      have K := K.2
      refine zg_iastore dX1_roll_88 (rfl) (Nat.le_of_ble_eq_true rfl) o10 ?_
      refine zi_aload_n dX1_roll_89 rfl rfl ?_
      refine zg_getF (k := 1) (v := .ref 52) dX1_roll_90 zc1 rfl (Nat.le_of_ble_eq_true rfl) (Nat.le_of_ble_eq_true rfl) u_207 rfl (rfl) ?_
      refine zi_aload_n dX1_roll_93 rfl rfl ?_
      refine zi_iload dX1_roll_94 rfl ?_
      refine zi_iconst (v := 2) dX1_roll_96 (by decide) ?_
      refine zi_callV (N := mX4_laneBeyond) (av := [.int x4, .int 2]) (st := [.ref 52]) (R1 := (some (.int (zlb ((zup I 52 (zx (zlb (I o 1) x4 1)) ((I 52 (zx (zlb (I o 1) x4 1))) + ((I 51 (zx x4)) / 2))) o 1) x4 2)), zh b (zup I 52 (zx (zlb (I o 1) x4 1)) ((I 52 (zx (zlb (I o 1) x4 1))) + ((I 51 (zx x4)) / 2))) L)) dX1_roll_97 okX4_laneBeyond u_648 u_554 u_555 zc4 (ho.sh) ho.l0 arX4_laneBeyond rfl (Nat.le_of_ble_eq_true rfl) (kX4_laneBeyond ho _ _) hR ?_
      show zA G (d + 1) mX1_roll 100 [some (.ref 50), some (.ref o), some (.int x2), some (.int x3), some (.int x4)] [.int (zlb ((zup I 52 (zx (zlb (I o 1) x4 1)) ((I 52 (zx (zlb (I o 1) x4 1))) + ((I 51 (zx x4)) / 2))) o 1) x4 2), .ref 52] (zh b (zup I 52 (zx (zlb (I o 1) x4 1)) ((I 52 (zx (zlb (I o 1) x4 1))) + ((I 51 (zx x4)) / 2))) L) R
      refine zi_dup2 dX1_roll_100 rfl rfl ?_
      have o11 := K.1
      have K := K.2
      refine zg_iaload dX1_roll_101 (rfl) (Nat.le_of_ble_eq_true rfl) o11 ?_
      refine zi_aload_n dX1_roll_102 rfl rfl ?_
      refine zg_getF (k := 0) (v := .ref 51) dX1_roll_103 zc1 rfl (Nat.le_of_ble_eq_true rfl) (Nat.le_of_ble_eq_true rfl) u_205 rfl (rfl) ?_
      refine zi_iload dX1_roll_106 rfl ?_
      have o12 := K.1
      have K := K.2
      refine zg_iaload dX1_roll_108 (rfl) (Nat.le_of_ble_eq_true rfl) o12 ?_
      refine zi_iconst (v := 2) dX1_roll_109 (by decide) ?_
      refine zi_idiv dX1_roll_110 (by decide) ?_
      refine zi_iadd dX1_roll_111 ?_
      have o13 := K.1
      have K := K.2
      refine zi_name (fun I14 hI14 => ?_)
      have K := K I14 hI14
      refine zg_iastore dX1_roll_112 (rfl) (Nat.le_of_ble_eq_true rfl) o13 ?_
      refine zi_goto (tgt := 133) dX1_roll_113 (by decide) ?_
      refine zi_iinc (v := x4 + 1) (ls' := [some (.ref 50), some (.ref o), some (.int x2), some (.int x3), some (.int (x4 + 1))]) dX1_roll_133 rfl (by decide) rfl rfl ?_
      refine zi_goto (tgt := 41) dX1_roll_136 (by decide) ?_
      exact K
set_option maxRecDepth 100000 in
theorem tX1_partsWithin_0 {G : zG} {d b : Nat} {I : Nat → Nat → Int32} {L : Nat → Nat → Int64} {R : zR} {x1 : Int32} {x2 : Int32}
    (K : zA G d mX1_partsWithin 5 [some (.ref 50), some (.int x1), some (.int x2), some (.int 0), some (.int x1)] [] (zh b I L) R) :
    zA G d mX1_partsWithin 0 [some (.ref 50), some (.int x1), some (.int x2), none, none] [] (zh b I L) R := by
  refine zi_iconst (v := 0) dX1_partsWithin_0 (by decide) ?_
  refine zi_istore_n (ls' := [some (.ref 50), some (.int x1), some (.int x2), some (.int 0), none]) dX1_partsWithin_1 rfl (by decide) rfl ?_
  refine zi_iload_n dX1_partsWithin_2 rfl rfl ?_
  refine zi_istore (ls' := [some (.ref 50), some (.int x1), some (.int x2), some (.int 0), some (.int x1)]) dX1_partsWithin_3 (by decide) rfl ?_
  exact K
set_option maxRecDepth 100000 in
theorem tX1_partsWithin_5 {G : zG} {d b : Nat} {I : Nat → Nat → Int32} {L : Nat → Nat → Int64} {R : zR} {x1 : Int32} {x2 : Int32} {x3 : Int32} {x4 : Int32}
    (K : ((x2 < x4 → R = (some (.int x3), zh b I L)) ∧ (¬ x2 < x4 → ((6 ≤ x4 → R = (some (.int x3), zh b I L)) ∧ (¬ 6 ≤ x4 → (vp_in x4 6 ∧ zA G d mX1_partsWithin 5 [some (.ref 50), some (.int x1), some (.int x2), some (.int (x3 + (I 51 (zx x4)))), some (.int (x4 + 1))] [] (zh b I L) R)))))) :
    zA G d mX1_partsWithin 5 [some (.ref 50), some (.int x1), some (.int x2), some (.int x3), some (.int x4)] [] (zh b I L) R := by
  refine zi_iload dX1_partsWithin_5 rfl ?_
  refine zi_iload_n dX1_partsWithin_7 rfl rfl ?_
  refine zi_icmp_gt (tgt := 34) dX1_partsWithin_8 (by decide) (fun c1 => ?_) (fun c1 => ?_)
  · have K := K.1 c1
    refine zi_iload_n dX1_partsWithin_34 rfl rfl ?_
    subst K
    exact zi_ireturn dX1_partsWithin_35 rfl rfl
  · have K := K.2 c1
    refine zi_iload dX1_partsWithin_11 rfl ?_
    refine zi_bipush (v := 6) dX1_partsWithin_13 (by decide) ?_
    refine zi_icmp_ge (tgt := 34) dX1_partsWithin_15 (by decide) (fun c2 => ?_) (fun c2 => ?_)
    · have K := K.1 c2
      refine zi_iload_n dX1_partsWithin_34 rfl rfl ?_
      subst K
      exact zi_ireturn dX1_partsWithin_35 rfl rfl
    · have K := K.2 c2
      refine zi_iload_n dX1_partsWithin_18 rfl rfl ?_
      refine zi_aload_n dX1_partsWithin_19 rfl rfl ?_
      refine zg_getF (k := 0) (v := .ref 51) dX1_partsWithin_20 zc1 rfl (Nat.le_of_ble_eq_true rfl) (Nat.le_of_ble_eq_true rfl) u_205 rfl (rfl) ?_
      refine zi_iload dX1_partsWithin_23 rfl ?_
      have o3 := K.1
      have K := K.2
      refine zg_iaload dX1_partsWithin_25 (rfl) (Nat.le_of_ble_eq_true rfl) o3 ?_
      refine zi_iadd dX1_partsWithin_26 ?_
      refine zi_istore_n (ls' := [some (.ref 50), some (.int x1), some (.int x2), some (.int (x3 + (I 51 (zx x4)))), some (.int x4)]) dX1_partsWithin_27 rfl (by decide) rfl ?_
      refine zi_iinc (v := x4 + 1) (ls' := [some (.ref 50), some (.int x1), some (.int x2), some (.int (x3 + (I 51 (zx x4)))), some (.int (x4 + 1))]) dX1_partsWithin_28 rfl (by decide) rfl rfl ?_
      refine zi_goto (tgt := 5) dX1_partsWithin_31 (by decide) ?_
      exact K
set_option maxRecDepth 100000 in
theorem tX10_followAll_0 {G : zG} {d b : Nat} {I : Nat → Nat → Int32} {L : Nat → Nat → Int64} {R : zR}  {o : Nat} (ho : zhl o)
    (K : zA G (d + 5) mX10_followAll 2 [some (.ref 43), some (.ref o), some (.ref 37), some (.int 0)] [] (zh b I L) R) :
    zA G (d + 5) mX10_followAll 0 [some (.ref 43), some (.ref o), some (.ref 37), none] [] (zh b I L) R := by
  refine zi_iconst (v := 0) dX10_followAll_0 (by decide) ?_
  refine zi_istore_n (ls' := [some (.ref 43), some (.ref o), some (.ref 37), some (.int 0)]) dX10_followAll_1 rfl (by decide) rfl ?_
  exact K
set_option maxRecDepth 100000 in
theorem tX10_followAll_2 {G : zG} {d b : Nat} {I : Nat → Nat → Int32} {L : Nat → Nat → Int64} {R : zR} {x3 : Int32} {o : Nat} (ho : zhl o) (hR : zR0 R)
    (K : (((I o 2) ≤ x3 → R = (none, zh b I L)) ∧ (¬ (I o 2) ≤ x3 → (∃ (I2 : Nat → Nat → Int32), zCall (d + 4) mX10_follow [.ref 43, .ref o, .ref 37, .int x3, .int 8] (zh b I L) (none, zh b I2 L) ∧ zA G (d + 5) mX10_followAll 2 [some (.ref 43), some (.ref o), some (.ref 37), some (.int (x3 + 1))] [] (zh b I2 L) R)))) :
    zA G (d + 5) mX10_followAll 2 [some (.ref 43), some (.ref o), some (.ref 37), some (.int x3)] [] (zh b I L) R := by
  refine zi_iload_n dX10_followAll_2 rfl rfl ?_
  refine zi_aload_n dX10_followAll_3 rfl rfl ?_
  refine zg_getI (k := 2) dX10_followAll_4 zc4 ho.sh ho.l0 (Nat.le_of_ble_eq_true rfl) u_46 rfl ?_
  refine zi_icmp_ge (tgt := 25) dX10_followAll_7 (by decide) (fun c1 => ?_) (fun c1 => ?_)
  · have K := K.1 c1
    subst K
    exact zi_return dX10_followAll_25 rfl
  · have K := K.2 c1
    refine zi_aload_n dX10_followAll_10 rfl rfl ?_
    refine zi_aload_n dX10_followAll_11 rfl rfl ?_
    refine zi_aload_n dX10_followAll_12 rfl rfl ?_
    refine zi_iload_n dX10_followAll_13 rfl rfl ?_
    refine zi_bipush (v := 8) dX10_followAll_14 (by decide) ?_
    obtain ⟨I2, h3, K⟩ := K
    refine zi_callV (N := mX10_follow) (av := [.ref o, .ref 37, .int x3, .int 8]) (st := []) (R1 := (none, zh b I2 L)) dX10_followAll_16 okX10_follow u_613 u_470 u_471 zc10 (rfl) (Nat.le_of_ble_eq_true rfl) arX10_follow rfl (Nat.le_of_ble_eq_true rfl) (h3) hR ?_
    show zA G (d + 5) mX10_followAll 19 [some (.ref 43), some (.ref o), some (.ref 37), some (.int x3)] [] (zh b I2 L) R
    refine zi_iinc (v := x3 + 1) (ls' := [some (.ref 43), some (.ref o), some (.ref 37), some (.int (x3 + 1))]) dX10_followAll_19 rfl (by decide) rfl rfl ?_
    refine zi_goto (tgt := 2) dX10_followAll_22 (by decide) ?_
    exact K
set_option maxRecDepth 100000 in
theorem tX10_follow_0 {G : zG} {d b : Nat} {I : Nat → Nat → Int32} {L : Nat → Nat → Int64} {R : zR} {x3 : Int32} {x4 : Int32} {o : Nat} (ho : zhl o) (hR : zR0 R)
    (K : (vp_in x3 6 ∧ (vp_in x3 6 ∧ zA G (d + 4) mX10_follow 29 [some (.ref 43), some (.ref o), some (.ref 37), some (.int x3), some (.int x4), some (.ref (38 + zkn (I (o + 3) (zx x3)))), some (.int (I (o + 4) (zx x3))), some (.int 0), some (.int 0), some (.int 0), none, none] [] (zh b I L) R))) :
    zA G (d + 4) mX10_follow 0 [some (.ref 43), some (.ref o), some (.ref 37), some (.int x3), some (.int x4), none, none, none, none, none, none, none] [] (zh b I L) R := by
  refine zi_aload_n dX10_follow_0 rfl rfl ?_
  refine zi_aload_n dX10_follow_1 rfl rfl ?_
  refine zg_getF (k := 7) (v := .ref (o + 3)) dX10_follow_2 zc4 ho.sh ho.l0 (Nat.le_of_ble_eq_true rfl) u_66 rfl (ho.f7) ?_
  refine zi_iload_n dX10_follow_5 rfl rfl ?_
  have o1 := K.1
  have K := K.2
  refine zg_iaload dX10_follow_6 (ho.s3) (ho.lt 3 (Nat.le_of_ble_eq_true rfl)) o1 ?_
  refine zi_callV (N := mX5_numbered) (av := [.int (I (o + 3) (zx x3))]) (st := []) (R1 := (some (.ref (38 + zkn (I (o + 3) (zx x3)))), zh b I L)) dX10_follow_7 okX5_numbered u_473 u_474 u_475 zc5 (rfl) (Nat.le_of_ble_eq_true rfl) arX5_numbered rfl (Nat.le_of_ble_eq_true rfl) (kX5_numbered _) hR ?_
  show zA G (d + 4) mX10_follow 10 [some (.ref 43), some (.ref o), some (.ref 37), some (.int x3), some (.int x4), none, none, none, none, none, none, none] [.ref (38 + zkn (I (o + 3) (zx x3)))] (zh b I L) R
  refine zi_astore (ls' := [some (.ref 43), some (.ref o), some (.ref 37), some (.int x3), some (.int x4), some (.ref (38 + zkn (I (o + 3) (zx x3)))), none, none, none, none, none, none]) dX10_follow_10 (by decide) rfl ?_
  refine zi_aload_n dX10_follow_12 rfl rfl ?_
  refine zg_getF (k := 8) (v := .ref (o + 4)) dX10_follow_13 zc4 ho.sh ho.l0 (Nat.le_of_ble_eq_true rfl) u_69 rfl (ho.f8) ?_
  refine zi_iload_n dX10_follow_16 rfl rfl ?_
  have o2 := K.1
  have K := K.2
  refine zg_iaload dX10_follow_17 (ho.s4) (ho.lt 4 (Nat.le_of_ble_eq_true rfl)) o2 ?_
  refine zi_istore (ls' := [some (.ref 43), some (.ref o), some (.ref 37), some (.int x3), some (.int x4), some (.ref (38 + zkn (I (o + 3) (zx x3)))), some (.int (I (o + 4) (zx x3))), none, none, none, none, none]) dX10_follow_18 (by decide) rfl ?_
  refine zi_iconst (v := 0) dX10_follow_20 (by decide) ?_
  refine zi_istore (ls' := [some (.ref 43), some (.ref o), some (.ref 37), some (.int x3), some (.int x4), some (.ref (38 + zkn (I (o + 3) (zx x3)))), some (.int (I (o + 4) (zx x3))), some (.int 0), none, none, none, none]) dX10_follow_21 (by decide) rfl ?_
  refine zi_iconst (v := 0) dX10_follow_23 (by decide) ?_
  refine zi_istore (ls' := [some (.ref 43), some (.ref o), some (.ref 37), some (.int x3), some (.int x4), some (.ref (38 + zkn (I (o + 3) (zx x3)))), some (.int (I (o + 4) (zx x3))), some (.int 0), some (.int 0), none, none, none]) dX10_follow_24 (by decide) rfl ?_
  refine zi_iconst (v := 0) dX10_follow_26 (by decide) ?_
  refine zi_istore (ls' := [some (.ref 43), some (.ref o), some (.ref 37), some (.int x3), some (.int x4), some (.ref (38 + zkn (I (o + 3) (zx x3)))), some (.int (I (o + 4) (zx x3))), some (.int 0), some (.int 0), some (.int 0), none, none]) dX10_follow_27 (by decide) rfl ?_
  exact K
set_option maxRecDepth 100000 in
theorem tX10_follow_29 {G : zG} {d b : Nat} {I : Nat → Nat → Int32} {L : Nat → Nat → Int64} {R : zR} {x3 : Int32} {x4 : Int32} {x6 : Int32} {x7 : Int32} {x8 : Int32} {x9 : Int32} {k5 : Nat} (hk5 : k5 < 5) {o : Nat} (ho : zhl o) (hR : zR0 R)
    (K : (((I o 0) ≤ x9 → (vp_in ((x3 * 9) + (I o 0)) 54 ∧ (vp_in ((x3 * 9) + ((zup I 44 (zx ((x3 * 9) + (I o 0))) x6) o 0)) 54 ∧ (∀ I4 : Nat → Nat → Int32, I4 = (zup I 44 (zx ((x3 * 9) + (I o 0))) x6) → R = (none, zh b (zup I4 46 (zx ((x3 * 9) + ((zup I 44 (zx ((x3 * 9) + (I o 0))) x6) o 0))) x8) L))))) ∧ (¬ (I o 0) ≤ x9 → ((x9 < x4 → (vp_in ((x9 * 6) + x6) 48 ∧ (vp_in ((x9 * 6) + x6) 48 ∧ (vp_in ((x3 * 9) + x9) 54 ∧ (vp_in ((x3 * 9) + x9) 54 ∧ (∀ I10 : Nat → Nat → Int32, I10 = (zup I 44 (zx ((x3 * 9) + x9)) x6) → (vp_in ((x3 * 9) + x9) 54 ∧ (∀ I12 : Nat → Nat → Int32, I12 = (zup I10 45 (zx ((x3 * 9) + x9)) (zpw k5 x7 (I (o + 1) (zx ((x9 * 6) + x6))) (I (o + 2) (zx ((x9 * 6) + x6))) x9)) → (vp_in ((x3 * 9) + x9) 54 ∧ (∀ I14 : Nat → Nat → Int32, I14 = (zup I12 46 (zx ((x3 * 9) + x9)) x8) → (vp_in ((x3 * 8) + x9) 48 ∧ zA G (d + 4) mX10_follow 29 [some (.ref 43), some (.ref o), some (.ref 37), some (.int x3), some (.int x4), some (.ref (38 + k5)), some (.int (zlb ((zup I14 47 (zx ((x3 * 9) + x9)) (zhw k5 (I (o + 2) (zx ((x9 * 6) + x6))) x7 (zpw k5 x7 (I (o + 1) (zx ((x9 * 6) + x6))) (I (o + 2) (zx ((x9 * 6) + x6))) x9))) o 1) x6 ((zup I14 47 (zx ((x3 * 9) + x9)) (zhw k5 (I (o + 2) (zx ((x9 * 6) + x6))) x7 (zpw k5 x7 (I (o + 1) (zx ((x9 * 6) + x6))) (I (o + 2) (zx ((x9 * 6) + x6))) x9))) (o + 6) (zx ((x3 * 8) + x9))))), some (.int (zpw k5 x7 (I (o + 1) (zx ((x9 * 6) + x6))) (I (o + 2) (zx ((x9 * 6) + x6))) x9)), some (.int (x8 + (ztw k5 (I (o + 2) (zx ((x9 * 6) + x6))) (zpw k5 x7 (I (o + 1) (zx ((x9 * 6) + x6))) (I (o + 2) (zx ((x9 * 6) + x6))) x9)))), some (.int (x9 + 1)), none, none] [] (zh b (zup I14 47 (zx ((x3 * 9) + x9)) (zhw k5 (I (o + 2) (zx ((x9 * 6) + x6))) x7 (zpw k5 x7 (I (o + 1) (zx ((x9 * 6) + x6))) (I (o + 2) (zx ((x9 * 6) + x6))) x9))) L) R))))))))))) ∧ (¬ x9 < x4 → (vp_in ((x9 * 6) + x6) 48 ∧ (vp_in ((x9 * 6) + x6) 48 ∧ (vp_in ((x3 * 9) + x9) 54 ∧ (vp_in ((x3 * 9) + x9) 54 ∧ (∀ I20 : Nat → Nat → Int32, I20 = (zup I 44 (zx ((x3 * 9) + x9)) x6) → (vp_in ((x3 * 9) + x9) 54 ∧ (∀ I22 : Nat → Nat → Int32, I22 = (zup I20 45 (zx ((x3 * 9) + x9)) (zpw 2 x7 (I (o + 1) (zx ((x9 * 6) + x6))) (I (o + 2) (zx ((x9 * 6) + x6))) x9)) → (vp_in ((x3 * 9) + x9) 54 ∧ (∀ I24 : Nat → Nat → Int32, I24 = (zup I22 46 (zx ((x3 * 9) + x9)) x8) → (vp_in ((x3 * 8) + x9) 48 ∧ zA G (d + 4) mX10_follow 29 [some (.ref 43), some (.ref o), some (.ref 37), some (.int x3), some (.int x4), some (.ref (38 + 2)), some (.int (zlb ((zup I24 47 (zx ((x3 * 9) + x9)) (zhw 2 (I (o + 2) (zx ((x9 * 6) + x6))) x7 (zpw 2 x7 (I (o + 1) (zx ((x9 * 6) + x6))) (I (o + 2) (zx ((x9 * 6) + x6))) x9))) o 1) x6 ((zup I24 47 (zx ((x3 * 9) + x9)) (zhw 2 (I (o + 2) (zx ((x9 * 6) + x6))) x7 (zpw 2 x7 (I (o + 1) (zx ((x9 * 6) + x6))) (I (o + 2) (zx ((x9 * 6) + x6))) x9))) (o + 6) (zx ((x3 * 8) + x9))))), some (.int (zpw 2 x7 (I (o + 1) (zx ((x9 * 6) + x6))) (I (o + 2) (zx ((x9 * 6) + x6))) x9)), some (.int (x8 + (ztw 2 (I (o + 2) (zx ((x9 * 6) + x6))) (zpw 2 x7 (I (o + 1) (zx ((x9 * 6) + x6))) (I (o + 2) (zx ((x9 * 6) + x6))) x9)))), some (.int (x9 + 1)), none, none] [] (zh b (zup I24 47 (zx ((x3 * 9) + x9)) (zhw 2 (I (o + 2) (zx ((x9 * 6) + x6))) x7 (zpw 2 x7 (I (o + 1) (zx ((x9 * 6) + x6))) (I (o + 2) (zx ((x9 * 6) + x6))) x9))) L) R))))))))))))))) :
    zA G (d + 4) mX10_follow 29 [some (.ref 43), some (.ref o), some (.ref 37), some (.int x3), some (.int x4), some (.ref (38 + k5)), some (.int x6), some (.int x7), some (.int x8), some (.int x9), none, none] [] (zh b I L) R := by
  refine zi_iload dX10_follow_29 rfl ?_
  refine zi_aload_n dX10_follow_31 rfl rfl ?_
  refine zg_getI (k := 0) dX10_follow_32 zc4 ho.sh ho.l0 (Nat.le_of_ble_eq_true rfl) u_39 rfl ?_
  refine zi_icmp_ge (tgt := 194) dX10_follow_35 (by decide) (fun c1 => ?_) (fun c1 => ?_)
  · have K := K.1 c1
    refine zi_aload_n dX10_follow_194 rfl rfl ?_
    refine zg_getF (k := 0) (v := .ref 44) dX10_follow_195 zc10 rfl (Nat.le_of_ble_eq_true rfl) (Nat.le_of_ble_eq_true rfl) u_172 rfl (rfl) ?_
    refine zi_iload_n dX10_follow_198 rfl rfl ?_
    refine zi_aload_n dX10_follow_199 rfl rfl ?_
    refine zg_getI (k := 0) dX10_follow_200 zc4 ho.sh ho.l0 (Nat.le_of_ble_eq_true rfl) u_39 rfl ?_
    refine zi_callSN (N := mX11_onWay) (av := [.int x3, .int (I o 0)]) (st := [.ref 44]) (R1 := (some (.int ((x3 * 9) + (I o 0))), zh b I L)) dX10_follow_203 okX11_onWay (by decide) u_516 arX11_onWay rfl (Nat.le_of_ble_eq_true rfl) (kX11_onWay _ _) hR ?_
    show zA G (d + 4) mX10_follow 206 [some (.ref 43), some (.ref o), some (.ref 37), some (.int x3), some (.int x4), some (.ref (38 + k5)), some (.int x6), some (.int x7), some (.int x8), some (.int x9), none, none] [.int ((x3 * 9) + (I o 0)), .ref 44] (zh b I L) R
    refine zi_iload dX10_follow_206 rfl ?_
    have o2 := K.1
    have K := K.2
    refine zg_iastore dX10_follow_208 (rfl) (Nat.le_of_ble_eq_true rfl) o2 ?_
    refine zi_aload_n dX10_follow_209 rfl rfl ?_
    refine zg_getF (k := 2) (v := .ref 46) dX10_follow_210 zc10 rfl (Nat.le_of_ble_eq_true rfl) (Nat.le_of_ble_eq_true rfl) u_176 rfl (rfl) ?_
    refine zi_iload_n dX10_follow_213 rfl rfl ?_
    refine zi_aload_n dX10_follow_214 rfl rfl ?_
    refine zg_getI (k := 0) dX10_follow_215 zc4 ho.sh ho.l0 (Nat.le_of_ble_eq_true rfl) u_39 rfl ?_
    refine zi_callSN (N := mX11_onWay) (av := [.int x3, .int ((zup I 44 (zx ((x3 * 9) + (I o 0))) x6) o 0)]) (st := [.ref 46]) (R1 := (some (.int ((x3 * 9) + ((zup I 44 (zx ((x3 * 9) + (I o 0))) x6) o 0))), zh b (zup I 44 (zx ((x3 * 9) + (I o 0))) x6) L)) dX10_follow_218 okX11_onWay (by decide) u_516 arX11_onWay rfl (Nat.le_of_ble_eq_true rfl) (kX11_onWay _ _) hR ?_
    show zA G (d + 4) mX10_follow 221 [some (.ref 43), some (.ref o), some (.ref 37), some (.int x3), some (.int x4), some (.ref (38 + k5)), some (.int x6), some (.int x7), some (.int x8), some (.int x9), none, none] [.int ((x3 * 9) + ((zup I 44 (zx ((x3 * 9) + (I o 0))) x6) o 0)), .ref 46] (zh b (zup I 44 (zx ((x3 * 9) + (I o 0))) x6) L) R
    refine zi_iload dX10_follow_221 rfl ?_
    have o3 := K.1
    have K := K.2
    refine zi_name (fun I4 hI4 => ?_)
    have K := K I4 hI4
    refine zg_iastore dX10_follow_223 (rfl) (Nat.le_of_ble_eq_true rfl) o3 ?_
    subst K
    exact zi_return dX10_follow_224 rfl
  · have K := K.2 c1
    refine zi_iload dX10_follow_38 rfl ?_
    refine zi_iload dX10_follow_40 rfl ?_
    refine zi_icmp_lt (tgt := 51) dX10_follow_42 (by decide) (fun c5 => ?_) (fun c5 => ?_)
    · have K := K.1 c5
      refine zi_aload_n dX10_follow_51 rfl rfl ?_
      refine zg_getF (k := 6) (v := .ref (o + 2)) dX10_follow_52 zc4 ho.sh ho.l0 (Nat.le_of_ble_eq_true rfl) u_61 rfl (ho.f6) ?_
      refine zi_iload dX10_follow_55 rfl ?_
      refine zi_iload dX10_follow_57 rfl ?_
      refine zi_callSN (N := mX11_cell) (av := [.int x9, .int x6]) (st := [.ref (o + 2)]) (R1 := (some (.int ((x9 * 6) + x6)), zh b I L)) dX10_follow_59 okX11_cell (by decide) u_315 arX11_cell rfl (Nat.le_of_ble_eq_true rfl) (kX11_cell _ _) hR ?_
      show zA G (d + 4) mX10_follow 62 [some (.ref 43), some (.ref o), some (.ref 37), some (.int x3), some (.int x4), some (.ref (38 + k5)), some (.int x6), some (.int x7), some (.int x8), some (.int x9), none, none] [.int ((x9 * 6) + x6), .ref (o + 2)] (zh b I L) R
      have o6 := K.1
      have K := K.2
      refine zg_iaload dX10_follow_62 (ho.s2) (ho.lt 2 (Nat.le_of_ble_eq_true rfl)) o6 ?_
      refine zi_istore (ls' := [some (.ref 43), some (.ref o), some (.ref 37), some (.int x3), some (.int x4), some (.ref (38 + k5)), some (.int x6), some (.int x7), some (.int x8), some (.int x9), some (.int (I (o + 2) (zx ((x9 * 6) + x6)))), none]) dX10_follow_63 (by decide) rfl ?_
      refine zi_aload dX10_follow_65 rfl ?_
      refine zi_iload dX10_follow_67 rfl ?_
      refine zi_aload_n dX10_follow_69 rfl rfl ?_
      refine zg_getF (k := 5) (v := .ref (o + 1)) dX10_follow_70 zc4 ho.sh ho.l0 (Nat.le_of_ble_eq_true rfl) u_57 rfl (ho.f5) ?_
      refine zi_iload dX10_follow_73 rfl ?_
      refine zi_iload dX10_follow_75 rfl ?_
      refine zi_callSN (N := mX11_cell) (av := [.int x9, .int x6]) (st := [.ref (o + 1), .int x7, .ref (38 + k5)]) (R1 := (some (.int ((x9 * 6) + x6)), zh b I L)) dX10_follow_77 okX11_cell (by decide) u_315 arX11_cell rfl (Nat.le_of_ble_eq_true rfl) (kX11_cell _ _) hR ?_
      show zA G (d + 4) mX10_follow 80 [some (.ref 43), some (.ref o), some (.ref 37), some (.int x3), some (.int x4), some (.ref (38 + k5)), some (.int x6), some (.int x7), some (.int x8), some (.int x9), some (.int (I (o + 2) (zx ((x9 * 6) + x6)))), none] [.int ((x9 * 6) + x6), .ref (o + 1), .int x7, .ref (38 + k5)] (zh b I L) R
      have o7 := K.1
      have K := K.2
      refine zg_iaload dX10_follow_80 (ho.s1) (ho.lt 1 (Nat.le_of_ble_eq_true rfl)) o7 ?_
      refine zi_iload dX10_follow_81 rfl ?_
      refine zi_iload dX10_follow_83 rfl ?_
      refine zk_X10_newPace rfl hk5 (av := [.int x7, .int (I (o + 1) (zx ((x9 * 6) + x6))), .int (I (o + 2) (zx ((x9 * 6) + x6))), .int x9]) (st := []) (R1 := (some (.int (zpw k5 x7 (I (o + 1) (zx ((x9 * 6) + x6))) (I (o + 2) (zx ((x9 * 6) + x6))) x9)), zh b I L)) dX10_follow_85 arX9_newPace rfl (Nat.le_of_ble_eq_true rfl) (kX9_newPace hk5 _ _ _ _) hR ?_
      show zA G (d + 4) mX10_follow 88 [some (.ref 43), some (.ref o), some (.ref 37), some (.int x3), some (.int x4), some (.ref (38 + k5)), some (.int x6), some (.int x7), some (.int x8), some (.int x9), some (.int (I (o + 2) (zx ((x9 * 6) + x6)))), none] [.int (zpw k5 x7 (I (o + 1) (zx ((x9 * 6) + x6))) (I (o + 2) (zx ((x9 * 6) + x6))) x9)] (zh b I L) R
      refine zi_istore (ls' := [some (.ref 43), some (.ref o), some (.ref 37), some (.int x3), some (.int x4), some (.ref (38 + k5)), some (.int x6), some (.int x7), some (.int x8), some (.int x9), some (.int (I (o + 2) (zx ((x9 * 6) + x6)))), some (.int (zpw k5 x7 (I (o + 1) (zx ((x9 * 6) + x6))) (I (o + 2) (zx ((x9 * 6) + x6))) x9))]) dX10_follow_88 (by decide) rfl ?_
      refine zi_aload_n dX10_follow_90 rfl rfl ?_
      refine zg_getF (k := 0) (v := .ref 44) dX10_follow_91 zc10 rfl (Nat.le_of_ble_eq_true rfl) (Nat.le_of_ble_eq_true rfl) u_172 rfl (rfl) ?_
      refine zi_iload_n dX10_follow_94 rfl rfl ?_
      refine zi_iload dX10_follow_95 rfl ?_
      refine zi_callSN (N := mX11_onWay) (av := [.int x3, .int x9]) (st := [.ref 44]) (R1 := (some (.int ((x3 * 9) + x9)), zh b I L)) dX10_follow_97 okX11_onWay (by decide) u_516 arX11_onWay rfl (Nat.le_of_ble_eq_true rfl) (kX11_onWay _ _) hR ?_
      show zA G (d + 4) mX10_follow 100 [some (.ref 43), some (.ref o), some (.ref 37), some (.int x3), some (.int x4), some (.ref (38 + k5)), some (.int x6), some (.int x7), some (.int x8), some (.int x9), some (.int (I (o + 2) (zx ((x9 * 6) + x6)))), some (.int (zpw k5 x7 (I (o + 1) (zx ((x9 * 6) + x6))) (I (o + 2) (zx ((x9 * 6) + x6))) x9))] [.int ((x3 * 9) + x9), .ref 44] (zh b I L) R
      refine zi_iload dX10_follow_100 rfl ?_
      have o8 := K.1
      have K := K.2
      refine zg_iastore dX10_follow_102 (rfl) (Nat.le_of_ble_eq_true rfl) o8 ?_
      refine zi_aload_n dX10_follow_103 rfl rfl ?_
      refine zg_getF (k := 1) (v := .ref 45) dX10_follow_104 zc10 rfl (Nat.le_of_ble_eq_true rfl) (Nat.le_of_ble_eq_true rfl) u_174 rfl (rfl) ?_
      refine zi_iload_n dX10_follow_107 rfl rfl ?_
      refine zi_iload dX10_follow_108 rfl ?_
      refine zi_callSN (N := mX11_onWay) (av := [.int x3, .int x9]) (st := [.ref 45]) (R1 := (some (.int ((x3 * 9) + x9)), zh b (zup I 44 (zx ((x3 * 9) + x9)) x6) L)) dX10_follow_110 okX11_onWay (by decide) u_516 arX11_onWay rfl (Nat.le_of_ble_eq_true rfl) (kX11_onWay _ _) hR ?_
      show zA G (d + 4) mX10_follow 113 [some (.ref 43), some (.ref o), some (.ref 37), some (.int x3), some (.int x4), some (.ref (38 + k5)), some (.int x6), some (.int x7), some (.int x8), some (.int x9), some (.int (I (o + 2) (zx ((x9 * 6) + x6)))), some (.int (zpw k5 x7 (I (o + 1) (zx ((x9 * 6) + x6))) (I (o + 2) (zx ((x9 * 6) + x6))) x9))] [.int ((x3 * 9) + x9), .ref 45] (zh b (zup I 44 (zx ((x3 * 9) + x9)) x6) L) R
      refine zi_iload dX10_follow_113 rfl ?_
      have o9 := K.1
      have K := K.2
      refine zi_name (fun I10 hI10 => ?_)
      have K := K I10 hI10
      refine zg_iastore dX10_follow_115 (rfl) (Nat.le_of_ble_eq_true rfl) o9 ?_
      refine zi_aload_n dX10_follow_116 rfl rfl ?_
      refine zg_getF (k := 2) (v := .ref 46) dX10_follow_117 zc10 rfl (Nat.le_of_ble_eq_true rfl) (Nat.le_of_ble_eq_true rfl) u_176 rfl (rfl) ?_
      refine zi_iload_n dX10_follow_120 rfl rfl ?_
      refine zi_iload dX10_follow_121 rfl ?_
      refine zi_callSN (N := mX11_onWay) (av := [.int x3, .int x9]) (st := [.ref 46]) (R1 := (some (.int ((x3 * 9) + x9)), zh b (zup I10 45 (zx ((x3 * 9) + x9)) (zpw k5 x7 (I (o + 1) (zx ((x9 * 6) + x6))) (I (o + 2) (zx ((x9 * 6) + x6))) x9)) L)) dX10_follow_123 okX11_onWay (by decide) u_516 arX11_onWay rfl (Nat.le_of_ble_eq_true rfl) (kX11_onWay _ _) hR ?_
      show zA G (d + 4) mX10_follow 126 [some (.ref 43), some (.ref o), some (.ref 37), some (.int x3), some (.int x4), some (.ref (38 + k5)), some (.int x6), some (.int x7), some (.int x8), some (.int x9), some (.int (I (o + 2) (zx ((x9 * 6) + x6)))), some (.int (zpw k5 x7 (I (o + 1) (zx ((x9 * 6) + x6))) (I (o + 2) (zx ((x9 * 6) + x6))) x9))] [.int ((x3 * 9) + x9), .ref 46] (zh b (zup I10 45 (zx ((x3 * 9) + x9)) (zpw k5 x7 (I (o + 1) (zx ((x9 * 6) + x6))) (I (o + 2) (zx ((x9 * 6) + x6))) x9)) L) R
      refine zi_iload dX10_follow_126 rfl ?_
      have o11 := K.1
      have K := K.2
      refine zi_name (fun I12 hI12 => ?_)
      have K := K I12 hI12
      refine zg_iastore dX10_follow_128 (rfl) (Nat.le_of_ble_eq_true rfl) o11 ?_
      refine zi_aload_n dX10_follow_129 rfl rfl ?_
      refine zg_getF (k := 3) (v := .ref 47) dX10_follow_130 zc10 rfl (Nat.le_of_ble_eq_true rfl) (Nat.le_of_ble_eq_true rfl) u_178 rfl (rfl) ?_
      refine zi_iload_n dX10_follow_133 rfl rfl ?_
      refine zi_iload dX10_follow_134 rfl ?_
      refine zi_callSN (N := mX11_onWay) (av := [.int x3, .int x9]) (st := [.ref 47]) (R1 := (some (.int ((x3 * 9) + x9)), zh b (zup I12 46 (zx ((x3 * 9) + x9)) x8) L)) dX10_follow_136 okX11_onWay (by decide) u_516 arX11_onWay rfl (Nat.le_of_ble_eq_true rfl) (kX11_onWay _ _) hR ?_
      show zA G (d + 4) mX10_follow 139 [some (.ref 43), some (.ref o), some (.ref 37), some (.int x3), some (.int x4), some (.ref (38 + k5)), some (.int x6), some (.int x7), some (.int x8), some (.int x9), some (.int (I (o + 2) (zx ((x9 * 6) + x6)))), some (.int (zpw k5 x7 (I (o + 1) (zx ((x9 * 6) + x6))) (I (o + 2) (zx ((x9 * 6) + x6))) x9))] [.int ((x3 * 9) + x9), .ref 47] (zh b (zup I12 46 (zx ((x3 * 9) + x9)) x8) L) R
      refine zi_aload dX10_follow_139 rfl ?_
      refine zi_iload dX10_follow_141 rfl ?_
      refine zi_iload dX10_follow_143 rfl ?_
      refine zi_iload dX10_follow_145 rfl ?_
      refine zk_X10_harmIn rfl hk5 (av := [.int (I (o + 2) (zx ((x9 * 6) + x6))), .int x7, .int (zpw k5 x7 (I (o + 1) (zx ((x9 * 6) + x6))) (I (o + 2) (zx ((x9 * 6) + x6))) x9)]) (st := [.int ((x3 * 9) + x9), .ref 47]) (R1 := (some (.int (zhw k5 (I (o + 2) (zx ((x9 * 6) + x6))) x7 (zpw k5 x7 (I (o + 1) (zx ((x9 * 6) + x6))) (I (o + 2) (zx ((x9 * 6) + x6))) x9))), zh b (zup I12 46 (zx ((x3 * 9) + x9)) x8) L)) dX10_follow_147 arX9_harmIn rfl (Nat.le_of_ble_eq_true rfl) (kz_harmIn hk5 _ _ _) hR ?_
      show zA G (d + 4) mX10_follow 150 [some (.ref 43), some (.ref o), some (.ref 37), some (.int x3), some (.int x4), some (.ref (38 + k5)), some (.int x6), some (.int x7), some (.int x8), some (.int x9), some (.int (I (o + 2) (zx ((x9 * 6) + x6)))), some (.int (zpw k5 x7 (I (o + 1) (zx ((x9 * 6) + x6))) (I (o + 2) (zx ((x9 * 6) + x6))) x9))] [.int (zhw k5 (I (o + 2) (zx ((x9 * 6) + x6))) x7 (zpw k5 x7 (I (o + 1) (zx ((x9 * 6) + x6))) (I (o + 2) (zx ((x9 * 6) + x6))) x9)), .int ((x3 * 9) + x9), .ref 47] (zh b (zup I12 46 (zx ((x3 * 9) + x9)) x8) L) R
      have o13 := K.1
      have K := K.2
      refine zi_name (fun I14 hI14 => ?_)
      have K := K I14 hI14
      refine zg_iastore dX10_follow_150 (rfl) (Nat.le_of_ble_eq_true rfl) o13 ?_
      refine zi_iload dX10_follow_151 rfl ?_
      refine zi_aload dX10_follow_153 rfl ?_
      refine zi_iload dX10_follow_155 rfl ?_
      refine zi_iload dX10_follow_157 rfl ?_
      refine zk_X10_timeIn rfl hk5 (av := [.int (I (o + 2) (zx ((x9 * 6) + x6))), .int (zpw k5 x7 (I (o + 1) (zx ((x9 * 6) + x6))) (I (o + 2) (zx ((x9 * 6) + x6))) x9)]) (st := [.int x8]) (R1 := (some (.int (ztw k5 (I (o + 2) (zx ((x9 * 6) + x6))) (zpw k5 x7 (I (o + 1) (zx ((x9 * 6) + x6))) (I (o + 2) (zx ((x9 * 6) + x6))) x9))), zh b (zup I14 47 (zx ((x3 * 9) + x9)) (zhw k5 (I (o + 2) (zx ((x9 * 6) + x6))) x7 (zpw k5 x7 (I (o + 1) (zx ((x9 * 6) + x6))) (I (o + 2) (zx ((x9 * 6) + x6))) x9))) L)) dX10_follow_159 arX9_timeIn rfl (Nat.le_of_ble_eq_true rfl) (kX9_timeIn hk5 _ _) hR ?_
      show zA G (d + 4) mX10_follow 162 [some (.ref 43), some (.ref o), some (.ref 37), some (.int x3), some (.int x4), some (.ref (38 + k5)), some (.int x6), some (.int x7), some (.int x8), some (.int x9), some (.int (I (o + 2) (zx ((x9 * 6) + x6)))), some (.int (zpw k5 x7 (I (o + 1) (zx ((x9 * 6) + x6))) (I (o + 2) (zx ((x9 * 6) + x6))) x9))] [.int (ztw k5 (I (o + 2) (zx ((x9 * 6) + x6))) (zpw k5 x7 (I (o + 1) (zx ((x9 * 6) + x6))) (I (o + 2) (zx ((x9 * 6) + x6))) x9)), .int x8] (zh b (zup I14 47 (zx ((x3 * 9) + x9)) (zhw k5 (I (o + 2) (zx ((x9 * 6) + x6))) x7 (zpw k5 x7 (I (o + 1) (zx ((x9 * 6) + x6))) (I (o + 2) (zx ((x9 * 6) + x6))) x9))) L) R
      refine zi_iadd dX10_follow_162 ?_
      refine zi_istore (ls' := [some (.ref 43), some (.ref o), some (.ref 37), some (.int x3), some (.int x4), some (.ref (38 + k5)), some (.int x6), some (.int x7), some (.int (x8 + (ztw k5 (I (o + 2) (zx ((x9 * 6) + x6))) (zpw k5 x7 (I (o + 1) (zx ((x9 * 6) + x6))) (I (o + 2) (zx ((x9 * 6) + x6))) x9)))), some (.int x9), some (.int (I (o + 2) (zx ((x9 * 6) + x6)))), some (.int (zpw k5 x7 (I (o + 1) (zx ((x9 * 6) + x6))) (I (o + 2) (zx ((x9 * 6) + x6))) x9))]) dX10_follow_163 (by decide) rfl ?_
      refine zi_aload_n dX10_follow_165 rfl rfl ?_
      refine zi_iload dX10_follow_166 rfl ?_
      refine zi_aload_n dX10_follow_168 rfl rfl ?_
      refine zg_getF (k := 10) (v := .ref (o + 6)) dX10_follow_169 zc4 ho.sh ho.l0 (Nat.le_of_ble_eq_true rfl) u_74 rfl (ho.f10) ?_
      refine zi_iload_n dX10_follow_172 rfl rfl ?_
      refine zi_iload dX10_follow_173 rfl ?_
      refine zi_callSN (N := mX11_onLine) (av := [.int x3, .int x9]) (st := [.ref (o + 6), .int x6, .ref o]) (R1 := (some (.int ((x3 * 8) + x9)), zh b (zup I14 47 (zx ((x3 * 9) + x9)) (zhw k5 (I (o + 2) (zx ((x9 * 6) + x6))) x7 (zpw k5 x7 (I (o + 1) (zx ((x9 * 6) + x6))) (I (o + 2) (zx ((x9 * 6) + x6))) x9))) L)) dX10_follow_175 okX11_onLine (by decide) u_334 arX11_onLine rfl (Nat.le_of_ble_eq_true rfl) (kX11_onLine _ _) hR ?_
      show zA G (d + 4) mX10_follow 178 [some (.ref 43), some (.ref o), some (.ref 37), some (.int x3), some (.int x4), some (.ref (38 + k5)), some (.int x6), some (.int x7), some (.int (x8 + (ztw k5 (I (o + 2) (zx ((x9 * 6) + x6))) (zpw k5 x7 (I (o + 1) (zx ((x9 * 6) + x6))) (I (o + 2) (zx ((x9 * 6) + x6))) x9)))), some (.int x9), some (.int (I (o + 2) (zx ((x9 * 6) + x6)))), some (.int (zpw k5 x7 (I (o + 1) (zx ((x9 * 6) + x6))) (I (o + 2) (zx ((x9 * 6) + x6))) x9))] [.int ((x3 * 8) + x9), .ref (o + 6), .int x6, .ref o] (zh b (zup I14 47 (zx ((x3 * 9) + x9)) (zhw k5 (I (o + 2) (zx ((x9 * 6) + x6))) x7 (zpw k5 x7 (I (o + 1) (zx ((x9 * 6) + x6))) (I (o + 2) (zx ((x9 * 6) + x6))) x9))) L) R
      have o15 := K.1
      have K := K.2
      refine zg_iaload dX10_follow_178 (ho.s6) (ho.lt 6 (Nat.le_of_ble_eq_true rfl)) o15 ?_
      refine zi_callV (N := mX4_laneBeyond) (av := [.int x6, .int ((zup I14 47 (zx ((x3 * 9) + x9)) (zhw k5 (I (o + 2) (zx ((x9 * 6) + x6))) x7 (zpw k5 x7 (I (o + 1) (zx ((x9 * 6) + x6))) (I (o + 2) (zx ((x9 * 6) + x6))) x9))) (o + 6) (zx ((x3 * 8) + x9)))]) (st := []) (R1 := (some (.int (zlb ((zup I14 47 (zx ((x3 * 9) + x9)) (zhw k5 (I (o + 2) (zx ((x9 * 6) + x6))) x7 (zpw k5 x7 (I (o + 1) (zx ((x9 * 6) + x6))) (I (o + 2) (zx ((x9 * 6) + x6))) x9))) o 1) x6 ((zup I14 47 (zx ((x3 * 9) + x9)) (zhw k5 (I (o + 2) (zx ((x9 * 6) + x6))) x7 (zpw k5 x7 (I (o + 1) (zx ((x9 * 6) + x6))) (I (o + 2) (zx ((x9 * 6) + x6))) x9))) (o + 6) (zx ((x3 * 8) + x9))))), zh b (zup I14 47 (zx ((x3 * 9) + x9)) (zhw k5 (I (o + 2) (zx ((x9 * 6) + x6))) x7 (zpw k5 x7 (I (o + 1) (zx ((x9 * 6) + x6))) (I (o + 2) (zx ((x9 * 6) + x6))) x9))) L)) dX10_follow_179 okX4_laneBeyond u_553 u_554 u_555 zc4 (ho.sh) ho.l0 arX4_laneBeyond rfl (Nat.le_of_ble_eq_true rfl) (kX4_laneBeyond ho _ _) hR ?_
      show zA G (d + 4) mX10_follow 182 [some (.ref 43), some (.ref o), some (.ref 37), some (.int x3), some (.int x4), some (.ref (38 + k5)), some (.int x6), some (.int x7), some (.int (x8 + (ztw k5 (I (o + 2) (zx ((x9 * 6) + x6))) (zpw k5 x7 (I (o + 1) (zx ((x9 * 6) + x6))) (I (o + 2) (zx ((x9 * 6) + x6))) x9)))), some (.int x9), some (.int (I (o + 2) (zx ((x9 * 6) + x6)))), some (.int (zpw k5 x7 (I (o + 1) (zx ((x9 * 6) + x6))) (I (o + 2) (zx ((x9 * 6) + x6))) x9))] [.int (zlb ((zup I14 47 (zx ((x3 * 9) + x9)) (zhw k5 (I (o + 2) (zx ((x9 * 6) + x6))) x7 (zpw k5 x7 (I (o + 1) (zx ((x9 * 6) + x6))) (I (o + 2) (zx ((x9 * 6) + x6))) x9))) o 1) x6 ((zup I14 47 (zx ((x3 * 9) + x9)) (zhw k5 (I (o + 2) (zx ((x9 * 6) + x6))) x7 (zpw k5 x7 (I (o + 1) (zx ((x9 * 6) + x6))) (I (o + 2) (zx ((x9 * 6) + x6))) x9))) (o + 6) (zx ((x3 * 8) + x9))))] (zh b (zup I14 47 (zx ((x3 * 9) + x9)) (zhw k5 (I (o + 2) (zx ((x9 * 6) + x6))) x7 (zpw k5 x7 (I (o + 1) (zx ((x9 * 6) + x6))) (I (o + 2) (zx ((x9 * 6) + x6))) x9))) L) R
      refine zi_istore (ls' := [some (.ref 43), some (.ref o), some (.ref 37), some (.int x3), some (.int x4), some (.ref (38 + k5)), some (.int (zlb ((zup I14 47 (zx ((x3 * 9) + x9)) (zhw k5 (I (o + 2) (zx ((x9 * 6) + x6))) x7 (zpw k5 x7 (I (o + 1) (zx ((x9 * 6) + x6))) (I (o + 2) (zx ((x9 * 6) + x6))) x9))) o 1) x6 ((zup I14 47 (zx ((x3 * 9) + x9)) (zhw k5 (I (o + 2) (zx ((x9 * 6) + x6))) x7 (zpw k5 x7 (I (o + 1) (zx ((x9 * 6) + x6))) (I (o + 2) (zx ((x9 * 6) + x6))) x9))) (o + 6) (zx ((x3 * 8) + x9))))), some (.int x7), some (.int (x8 + (ztw k5 (I (o + 2) (zx ((x9 * 6) + x6))) (zpw k5 x7 (I (o + 1) (zx ((x9 * 6) + x6))) (I (o + 2) (zx ((x9 * 6) + x6))) x9)))), some (.int x9), some (.int (I (o + 2) (zx ((x9 * 6) + x6)))), some (.int (zpw k5 x7 (I (o + 1) (zx ((x9 * 6) + x6))) (I (o + 2) (zx ((x9 * 6) + x6))) x9))]) dX10_follow_182 (by decide) rfl ?_
      refine zi_iload dX10_follow_184 rfl ?_
      refine zi_istore (ls' := [some (.ref 43), some (.ref o), some (.ref 37), some (.int x3), some (.int x4), some (.ref (38 + k5)), some (.int (zlb ((zup I14 47 (zx ((x3 * 9) + x9)) (zhw k5 (I (o + 2) (zx ((x9 * 6) + x6))) x7 (zpw k5 x7 (I (o + 1) (zx ((x9 * 6) + x6))) (I (o + 2) (zx ((x9 * 6) + x6))) x9))) o 1) x6 ((zup I14 47 (zx ((x3 * 9) + x9)) (zhw k5 (I (o + 2) (zx ((x9 * 6) + x6))) x7 (zpw k5 x7 (I (o + 1) (zx ((x9 * 6) + x6))) (I (o + 2) (zx ((x9 * 6) + x6))) x9))) (o + 6) (zx ((x3 * 8) + x9))))), some (.int (zpw k5 x7 (I (o + 1) (zx ((x9 * 6) + x6))) (I (o + 2) (zx ((x9 * 6) + x6))) x9)), some (.int (x8 + (ztw k5 (I (o + 2) (zx ((x9 * 6) + x6))) (zpw k5 x7 (I (o + 1) (zx ((x9 * 6) + x6))) (I (o + 2) (zx ((x9 * 6) + x6))) x9)))), some (.int x9), some (.int (I (o + 2) (zx ((x9 * 6) + x6)))), some (.int (zpw k5 x7 (I (o + 1) (zx ((x9 * 6) + x6))) (I (o + 2) (zx ((x9 * 6) + x6))) x9))]) dX10_follow_186 (by decide) rfl ?_
      refine zi_iinc (v := x9 + 1) (ls' := [some (.ref 43), some (.ref o), some (.ref 37), some (.int x3), some (.int x4), some (.ref (38 + k5)), some (.int (zlb ((zup I14 47 (zx ((x3 * 9) + x9)) (zhw k5 (I (o + 2) (zx ((x9 * 6) + x6))) x7 (zpw k5 x7 (I (o + 1) (zx ((x9 * 6) + x6))) (I (o + 2) (zx ((x9 * 6) + x6))) x9))) o 1) x6 ((zup I14 47 (zx ((x3 * 9) + x9)) (zhw k5 (I (o + 2) (zx ((x9 * 6) + x6))) x7 (zpw k5 x7 (I (o + 1) (zx ((x9 * 6) + x6))) (I (o + 2) (zx ((x9 * 6) + x6))) x9))) (o + 6) (zx ((x3 * 8) + x9))))), some (.int (zpw k5 x7 (I (o + 1) (zx ((x9 * 6) + x6))) (I (o + 2) (zx ((x9 * 6) + x6))) x9)), some (.int (x8 + (ztw k5 (I (o + 2) (zx ((x9 * 6) + x6))) (zpw k5 x7 (I (o + 1) (zx ((x9 * 6) + x6))) (I (o + 2) (zx ((x9 * 6) + x6))) x9)))), some (.int (x9 + 1)), some (.int (I (o + 2) (zx ((x9 * 6) + x6)))), some (.int (zpw k5 x7 (I (o + 1) (zx ((x9 * 6) + x6))) (I (o + 2) (zx ((x9 * 6) + x6))) x9))]) dX10_follow_188 rfl (by decide) rfl rfl ?_
      refine zi_goto (tgt := 29) dX10_follow_191 (by decide) ?_
      refine zi_mask [true, true, true, true, true, true, true, true, true, true, false, false] rfl ?_
      exact K
    · have K := K.2 c5
      refine zi_aload_n dX10_follow_45 rfl rfl ?_
      refine zg_getF (k := 2) (v := .ref (38 + 2)) dX10_follow_46 zc5 rfl (Nat.le_of_ble_eq_true rfl) (Nat.le_of_ble_eq_true rfl) u_152 rfl (rfl) ?_
      refine zi_astore (ls' := [some (.ref 43), some (.ref o), some (.ref 37), some (.int x3), some (.int x4), some (.ref (38 + 2)), some (.int x6), some (.int x7), some (.int x8), some (.int x9), none, none]) dX10_follow_49 (by decide) rfl ?_
      refine zi_aload_n dX10_follow_51 rfl rfl ?_
      refine zg_getF (k := 6) (v := .ref (o + 2)) dX10_follow_52 zc4 ho.sh ho.l0 (Nat.le_of_ble_eq_true rfl) u_61 rfl (ho.f6) ?_
      refine zi_iload dX10_follow_55 rfl ?_
      refine zi_iload dX10_follow_57 rfl ?_
      refine zi_callSN (N := mX11_cell) (av := [.int x9, .int x6]) (st := [.ref (o + 2)]) (R1 := (some (.int ((x9 * 6) + x6)), zh b I L)) dX10_follow_59 okX11_cell (by decide) u_315 arX11_cell rfl (Nat.le_of_ble_eq_true rfl) (kX11_cell _ _) hR ?_
      show zA G (d + 4) mX10_follow 62 [some (.ref 43), some (.ref o), some (.ref 37), some (.int x3), some (.int x4), some (.ref (38 + 2)), some (.int x6), some (.int x7), some (.int x8), some (.int x9), none, none] [.int ((x9 * 6) + x6), .ref (o + 2)] (zh b I L) R
      have o16 := K.1
      have K := K.2
      refine zg_iaload dX10_follow_62 (ho.s2) (ho.lt 2 (Nat.le_of_ble_eq_true rfl)) o16 ?_
      refine zi_istore (ls' := [some (.ref 43), some (.ref o), some (.ref 37), some (.int x3), some (.int x4), some (.ref (38 + 2)), some (.int x6), some (.int x7), some (.int x8), some (.int x9), some (.int (I (o + 2) (zx ((x9 * 6) + x6)))), none]) dX10_follow_63 (by decide) rfl ?_
      refine zi_aload dX10_follow_65 rfl ?_
      refine zi_iload dX10_follow_67 rfl ?_
      refine zi_aload_n dX10_follow_69 rfl rfl ?_
      refine zg_getF (k := 5) (v := .ref (o + 1)) dX10_follow_70 zc4 ho.sh ho.l0 (Nat.le_of_ble_eq_true rfl) u_57 rfl (ho.f5) ?_
      refine zi_iload dX10_follow_73 rfl ?_
      refine zi_iload dX10_follow_75 rfl ?_
      refine zi_callSN (N := mX11_cell) (av := [.int x9, .int x6]) (st := [.ref (o + 1), .int x7, .ref (38 + 2)]) (R1 := (some (.int ((x9 * 6) + x6)), zh b I L)) dX10_follow_77 okX11_cell (by decide) u_315 arX11_cell rfl (Nat.le_of_ble_eq_true rfl) (kX11_cell _ _) hR ?_
      show zA G (d + 4) mX10_follow 80 [some (.ref 43), some (.ref o), some (.ref 37), some (.int x3), some (.int x4), some (.ref (38 + 2)), some (.int x6), some (.int x7), some (.int x8), some (.int x9), some (.int (I (o + 2) (zx ((x9 * 6) + x6)))), none] [.int ((x9 * 6) + x6), .ref (o + 1), .int x7, .ref (38 + 2)] (zh b I L) R
      have o17 := K.1
      have K := K.2
      refine zg_iaload dX10_follow_80 (ho.s1) (ho.lt 1 (Nat.le_of_ble_eq_true rfl)) o17 ?_
      refine zi_iload dX10_follow_81 rfl ?_
      refine zi_iload dX10_follow_83 rfl ?_
      refine zk_X10_newPace rfl (by decide) (av := [.int x7, .int (I (o + 1) (zx ((x9 * 6) + x6))), .int (I (o + 2) (zx ((x9 * 6) + x6))), .int x9]) (st := []) (R1 := (some (.int (zpw 2 x7 (I (o + 1) (zx ((x9 * 6) + x6))) (I (o + 2) (zx ((x9 * 6) + x6))) x9)), zh b I L)) dX10_follow_85 arX9_newPace rfl (Nat.le_of_ble_eq_true rfl) (kX9_newPace (by decide) _ _ _ _) hR ?_
      show zA G (d + 4) mX10_follow 88 [some (.ref 43), some (.ref o), some (.ref 37), some (.int x3), some (.int x4), some (.ref (38 + 2)), some (.int x6), some (.int x7), some (.int x8), some (.int x9), some (.int (I (o + 2) (zx ((x9 * 6) + x6)))), none] [.int (zpw 2 x7 (I (o + 1) (zx ((x9 * 6) + x6))) (I (o + 2) (zx ((x9 * 6) + x6))) x9)] (zh b I L) R
      refine zi_istore (ls' := [some (.ref 43), some (.ref o), some (.ref 37), some (.int x3), some (.int x4), some (.ref (38 + 2)), some (.int x6), some (.int x7), some (.int x8), some (.int x9), some (.int (I (o + 2) (zx ((x9 * 6) + x6)))), some (.int (zpw 2 x7 (I (o + 1) (zx ((x9 * 6) + x6))) (I (o + 2) (zx ((x9 * 6) + x6))) x9))]) dX10_follow_88 (by decide) rfl ?_
      refine zi_aload_n dX10_follow_90 rfl rfl ?_
      refine zg_getF (k := 0) (v := .ref 44) dX10_follow_91 zc10 rfl (Nat.le_of_ble_eq_true rfl) (Nat.le_of_ble_eq_true rfl) u_172 rfl (rfl) ?_
      refine zi_iload_n dX10_follow_94 rfl rfl ?_
      refine zi_iload dX10_follow_95 rfl ?_
      refine zi_callSN (N := mX11_onWay) (av := [.int x3, .int x9]) (st := [.ref 44]) (R1 := (some (.int ((x3 * 9) + x9)), zh b I L)) dX10_follow_97 okX11_onWay (by decide) u_516 arX11_onWay rfl (Nat.le_of_ble_eq_true rfl) (kX11_onWay _ _) hR ?_
      show zA G (d + 4) mX10_follow 100 [some (.ref 43), some (.ref o), some (.ref 37), some (.int x3), some (.int x4), some (.ref (38 + 2)), some (.int x6), some (.int x7), some (.int x8), some (.int x9), some (.int (I (o + 2) (zx ((x9 * 6) + x6)))), some (.int (zpw 2 x7 (I (o + 1) (zx ((x9 * 6) + x6))) (I (o + 2) (zx ((x9 * 6) + x6))) x9))] [.int ((x3 * 9) + x9), .ref 44] (zh b I L) R
      refine zi_iload dX10_follow_100 rfl ?_
      have o18 := K.1
      have K := K.2
      refine zg_iastore dX10_follow_102 (rfl) (Nat.le_of_ble_eq_true rfl) o18 ?_
      refine zi_aload_n dX10_follow_103 rfl rfl ?_
      refine zg_getF (k := 1) (v := .ref 45) dX10_follow_104 zc10 rfl (Nat.le_of_ble_eq_true rfl) (Nat.le_of_ble_eq_true rfl) u_174 rfl (rfl) ?_
      refine zi_iload_n dX10_follow_107 rfl rfl ?_
      refine zi_iload dX10_follow_108 rfl ?_
      refine zi_callSN (N := mX11_onWay) (av := [.int x3, .int x9]) (st := [.ref 45]) (R1 := (some (.int ((x3 * 9) + x9)), zh b (zup I 44 (zx ((x3 * 9) + x9)) x6) L)) dX10_follow_110 okX11_onWay (by decide) u_516 arX11_onWay rfl (Nat.le_of_ble_eq_true rfl) (kX11_onWay _ _) hR ?_
      show zA G (d + 4) mX10_follow 113 [some (.ref 43), some (.ref o), some (.ref 37), some (.int x3), some (.int x4), some (.ref (38 + 2)), some (.int x6), some (.int x7), some (.int x8), some (.int x9), some (.int (I (o + 2) (zx ((x9 * 6) + x6)))), some (.int (zpw 2 x7 (I (o + 1) (zx ((x9 * 6) + x6))) (I (o + 2) (zx ((x9 * 6) + x6))) x9))] [.int ((x3 * 9) + x9), .ref 45] (zh b (zup I 44 (zx ((x3 * 9) + x9)) x6) L) R
      refine zi_iload dX10_follow_113 rfl ?_
      have o19 := K.1
      have K := K.2
      refine zi_name (fun I20 hI20 => ?_)
      have K := K I20 hI20
      refine zg_iastore dX10_follow_115 (rfl) (Nat.le_of_ble_eq_true rfl) o19 ?_
      refine zi_aload_n dX10_follow_116 rfl rfl ?_
      refine zg_getF (k := 2) (v := .ref 46) dX10_follow_117 zc10 rfl (Nat.le_of_ble_eq_true rfl) (Nat.le_of_ble_eq_true rfl) u_176 rfl (rfl) ?_
      refine zi_iload_n dX10_follow_120 rfl rfl ?_
      refine zi_iload dX10_follow_121 rfl ?_
      refine zi_callSN (N := mX11_onWay) (av := [.int x3, .int x9]) (st := [.ref 46]) (R1 := (some (.int ((x3 * 9) + x9)), zh b (zup I20 45 (zx ((x3 * 9) + x9)) (zpw 2 x7 (I (o + 1) (zx ((x9 * 6) + x6))) (I (o + 2) (zx ((x9 * 6) + x6))) x9)) L)) dX10_follow_123 okX11_onWay (by decide) u_516 arX11_onWay rfl (Nat.le_of_ble_eq_true rfl) (kX11_onWay _ _) hR ?_
      show zA G (d + 4) mX10_follow 126 [some (.ref 43), some (.ref o), some (.ref 37), some (.int x3), some (.int x4), some (.ref (38 + 2)), some (.int x6), some (.int x7), some (.int x8), some (.int x9), some (.int (I (o + 2) (zx ((x9 * 6) + x6)))), some (.int (zpw 2 x7 (I (o + 1) (zx ((x9 * 6) + x6))) (I (o + 2) (zx ((x9 * 6) + x6))) x9))] [.int ((x3 * 9) + x9), .ref 46] (zh b (zup I20 45 (zx ((x3 * 9) + x9)) (zpw 2 x7 (I (o + 1) (zx ((x9 * 6) + x6))) (I (o + 2) (zx ((x9 * 6) + x6))) x9)) L) R
      refine zi_iload dX10_follow_126 rfl ?_
      have o21 := K.1
      have K := K.2
      refine zi_name (fun I22 hI22 => ?_)
      have K := K I22 hI22
      refine zg_iastore dX10_follow_128 (rfl) (Nat.le_of_ble_eq_true rfl) o21 ?_
      refine zi_aload_n dX10_follow_129 rfl rfl ?_
      refine zg_getF (k := 3) (v := .ref 47) dX10_follow_130 zc10 rfl (Nat.le_of_ble_eq_true rfl) (Nat.le_of_ble_eq_true rfl) u_178 rfl (rfl) ?_
      refine zi_iload_n dX10_follow_133 rfl rfl ?_
      refine zi_iload dX10_follow_134 rfl ?_
      refine zi_callSN (N := mX11_onWay) (av := [.int x3, .int x9]) (st := [.ref 47]) (R1 := (some (.int ((x3 * 9) + x9)), zh b (zup I22 46 (zx ((x3 * 9) + x9)) x8) L)) dX10_follow_136 okX11_onWay (by decide) u_516 arX11_onWay rfl (Nat.le_of_ble_eq_true rfl) (kX11_onWay _ _) hR ?_
      show zA G (d + 4) mX10_follow 139 [some (.ref 43), some (.ref o), some (.ref 37), some (.int x3), some (.int x4), some (.ref (38 + 2)), some (.int x6), some (.int x7), some (.int x8), some (.int x9), some (.int (I (o + 2) (zx ((x9 * 6) + x6)))), some (.int (zpw 2 x7 (I (o + 1) (zx ((x9 * 6) + x6))) (I (o + 2) (zx ((x9 * 6) + x6))) x9))] [.int ((x3 * 9) + x9), .ref 47] (zh b (zup I22 46 (zx ((x3 * 9) + x9)) x8) L) R
      refine zi_aload dX10_follow_139 rfl ?_
      refine zi_iload dX10_follow_141 rfl ?_
      refine zi_iload dX10_follow_143 rfl ?_
      refine zi_iload dX10_follow_145 rfl ?_
      refine zk_X10_harmIn rfl (by decide) (av := [.int (I (o + 2) (zx ((x9 * 6) + x6))), .int x7, .int (zpw 2 x7 (I (o + 1) (zx ((x9 * 6) + x6))) (I (o + 2) (zx ((x9 * 6) + x6))) x9)]) (st := [.int ((x3 * 9) + x9), .ref 47]) (R1 := (some (.int (zhw 2 (I (o + 2) (zx ((x9 * 6) + x6))) x7 (zpw 2 x7 (I (o + 1) (zx ((x9 * 6) + x6))) (I (o + 2) (zx ((x9 * 6) + x6))) x9))), zh b (zup I22 46 (zx ((x3 * 9) + x9)) x8) L)) dX10_follow_147 arX9_harmIn rfl (Nat.le_of_ble_eq_true rfl) (kz_harmIn (by decide) _ _ _) hR ?_
      show zA G (d + 4) mX10_follow 150 [some (.ref 43), some (.ref o), some (.ref 37), some (.int x3), some (.int x4), some (.ref (38 + 2)), some (.int x6), some (.int x7), some (.int x8), some (.int x9), some (.int (I (o + 2) (zx ((x9 * 6) + x6)))), some (.int (zpw 2 x7 (I (o + 1) (zx ((x9 * 6) + x6))) (I (o + 2) (zx ((x9 * 6) + x6))) x9))] [.int (zhw 2 (I (o + 2) (zx ((x9 * 6) + x6))) x7 (zpw 2 x7 (I (o + 1) (zx ((x9 * 6) + x6))) (I (o + 2) (zx ((x9 * 6) + x6))) x9)), .int ((x3 * 9) + x9), .ref 47] (zh b (zup I22 46 (zx ((x3 * 9) + x9)) x8) L) R
      have o23 := K.1
      have K := K.2
      refine zi_name (fun I24 hI24 => ?_)
      have K := K I24 hI24
      refine zg_iastore dX10_follow_150 (rfl) (Nat.le_of_ble_eq_true rfl) o23 ?_
      refine zi_iload dX10_follow_151 rfl ?_
      refine zi_aload dX10_follow_153 rfl ?_
      refine zi_iload dX10_follow_155 rfl ?_
      refine zi_iload dX10_follow_157 rfl ?_
      refine zk_X10_timeIn rfl (by decide) (av := [.int (I (o + 2) (zx ((x9 * 6) + x6))), .int (zpw 2 x7 (I (o + 1) (zx ((x9 * 6) + x6))) (I (o + 2) (zx ((x9 * 6) + x6))) x9)]) (st := [.int x8]) (R1 := (some (.int (ztw 2 (I (o + 2) (zx ((x9 * 6) + x6))) (zpw 2 x7 (I (o + 1) (zx ((x9 * 6) + x6))) (I (o + 2) (zx ((x9 * 6) + x6))) x9))), zh b (zup I24 47 (zx ((x3 * 9) + x9)) (zhw 2 (I (o + 2) (zx ((x9 * 6) + x6))) x7 (zpw 2 x7 (I (o + 1) (zx ((x9 * 6) + x6))) (I (o + 2) (zx ((x9 * 6) + x6))) x9))) L)) dX10_follow_159 arX9_timeIn rfl (Nat.le_of_ble_eq_true rfl) (kX9_timeIn (by decide) _ _) hR ?_
      show zA G (d + 4) mX10_follow 162 [some (.ref 43), some (.ref o), some (.ref 37), some (.int x3), some (.int x4), some (.ref (38 + 2)), some (.int x6), some (.int x7), some (.int x8), some (.int x9), some (.int (I (o + 2) (zx ((x9 * 6) + x6)))), some (.int (zpw 2 x7 (I (o + 1) (zx ((x9 * 6) + x6))) (I (o + 2) (zx ((x9 * 6) + x6))) x9))] [.int (ztw 2 (I (o + 2) (zx ((x9 * 6) + x6))) (zpw 2 x7 (I (o + 1) (zx ((x9 * 6) + x6))) (I (o + 2) (zx ((x9 * 6) + x6))) x9)), .int x8] (zh b (zup I24 47 (zx ((x3 * 9) + x9)) (zhw 2 (I (o + 2) (zx ((x9 * 6) + x6))) x7 (zpw 2 x7 (I (o + 1) (zx ((x9 * 6) + x6))) (I (o + 2) (zx ((x9 * 6) + x6))) x9))) L) R
      refine zi_iadd dX10_follow_162 ?_
      refine zi_istore (ls' := [some (.ref 43), some (.ref o), some (.ref 37), some (.int x3), some (.int x4), some (.ref (38 + 2)), some (.int x6), some (.int x7), some (.int (x8 + (ztw 2 (I (o + 2) (zx ((x9 * 6) + x6))) (zpw 2 x7 (I (o + 1) (zx ((x9 * 6) + x6))) (I (o + 2) (zx ((x9 * 6) + x6))) x9)))), some (.int x9), some (.int (I (o + 2) (zx ((x9 * 6) + x6)))), some (.int (zpw 2 x7 (I (o + 1) (zx ((x9 * 6) + x6))) (I (o + 2) (zx ((x9 * 6) + x6))) x9))]) dX10_follow_163 (by decide) rfl ?_
      refine zi_aload_n dX10_follow_165 rfl rfl ?_
      refine zi_iload dX10_follow_166 rfl ?_
      refine zi_aload_n dX10_follow_168 rfl rfl ?_
      refine zg_getF (k := 10) (v := .ref (o + 6)) dX10_follow_169 zc4 ho.sh ho.l0 (Nat.le_of_ble_eq_true rfl) u_74 rfl (ho.f10) ?_
      refine zi_iload_n dX10_follow_172 rfl rfl ?_
      refine zi_iload dX10_follow_173 rfl ?_
      refine zi_callSN (N := mX11_onLine) (av := [.int x3, .int x9]) (st := [.ref (o + 6), .int x6, .ref o]) (R1 := (some (.int ((x3 * 8) + x9)), zh b (zup I24 47 (zx ((x3 * 9) + x9)) (zhw 2 (I (o + 2) (zx ((x9 * 6) + x6))) x7 (zpw 2 x7 (I (o + 1) (zx ((x9 * 6) + x6))) (I (o + 2) (zx ((x9 * 6) + x6))) x9))) L)) dX10_follow_175 okX11_onLine (by decide) u_334 arX11_onLine rfl (Nat.le_of_ble_eq_true rfl) (kX11_onLine _ _) hR ?_
      show zA G (d + 4) mX10_follow 178 [some (.ref 43), some (.ref o), some (.ref 37), some (.int x3), some (.int x4), some (.ref (38 + 2)), some (.int x6), some (.int x7), some (.int (x8 + (ztw 2 (I (o + 2) (zx ((x9 * 6) + x6))) (zpw 2 x7 (I (o + 1) (zx ((x9 * 6) + x6))) (I (o + 2) (zx ((x9 * 6) + x6))) x9)))), some (.int x9), some (.int (I (o + 2) (zx ((x9 * 6) + x6)))), some (.int (zpw 2 x7 (I (o + 1) (zx ((x9 * 6) + x6))) (I (o + 2) (zx ((x9 * 6) + x6))) x9))] [.int ((x3 * 8) + x9), .ref (o + 6), .int x6, .ref o] (zh b (zup I24 47 (zx ((x3 * 9) + x9)) (zhw 2 (I (o + 2) (zx ((x9 * 6) + x6))) x7 (zpw 2 x7 (I (o + 1) (zx ((x9 * 6) + x6))) (I (o + 2) (zx ((x9 * 6) + x6))) x9))) L) R
      have o25 := K.1
      have K := K.2
      refine zg_iaload dX10_follow_178 (ho.s6) (ho.lt 6 (Nat.le_of_ble_eq_true rfl)) o25 ?_
      refine zi_callV (N := mX4_laneBeyond) (av := [.int x6, .int ((zup I24 47 (zx ((x3 * 9) + x9)) (zhw 2 (I (o + 2) (zx ((x9 * 6) + x6))) x7 (zpw 2 x7 (I (o + 1) (zx ((x9 * 6) + x6))) (I (o + 2) (zx ((x9 * 6) + x6))) x9))) (o + 6) (zx ((x3 * 8) + x9)))]) (st := []) (R1 := (some (.int (zlb ((zup I24 47 (zx ((x3 * 9) + x9)) (zhw 2 (I (o + 2) (zx ((x9 * 6) + x6))) x7 (zpw 2 x7 (I (o + 1) (zx ((x9 * 6) + x6))) (I (o + 2) (zx ((x9 * 6) + x6))) x9))) o 1) x6 ((zup I24 47 (zx ((x3 * 9) + x9)) (zhw 2 (I (o + 2) (zx ((x9 * 6) + x6))) x7 (zpw 2 x7 (I (o + 1) (zx ((x9 * 6) + x6))) (I (o + 2) (zx ((x9 * 6) + x6))) x9))) (o + 6) (zx ((x3 * 8) + x9))))), zh b (zup I24 47 (zx ((x3 * 9) + x9)) (zhw 2 (I (o + 2) (zx ((x9 * 6) + x6))) x7 (zpw 2 x7 (I (o + 1) (zx ((x9 * 6) + x6))) (I (o + 2) (zx ((x9 * 6) + x6))) x9))) L)) dX10_follow_179 okX4_laneBeyond u_553 u_554 u_555 zc4 (ho.sh) ho.l0 arX4_laneBeyond rfl (Nat.le_of_ble_eq_true rfl) (kX4_laneBeyond ho _ _) hR ?_
      show zA G (d + 4) mX10_follow 182 [some (.ref 43), some (.ref o), some (.ref 37), some (.int x3), some (.int x4), some (.ref (38 + 2)), some (.int x6), some (.int x7), some (.int (x8 + (ztw 2 (I (o + 2) (zx ((x9 * 6) + x6))) (zpw 2 x7 (I (o + 1) (zx ((x9 * 6) + x6))) (I (o + 2) (zx ((x9 * 6) + x6))) x9)))), some (.int x9), some (.int (I (o + 2) (zx ((x9 * 6) + x6)))), some (.int (zpw 2 x7 (I (o + 1) (zx ((x9 * 6) + x6))) (I (o + 2) (zx ((x9 * 6) + x6))) x9))] [.int (zlb ((zup I24 47 (zx ((x3 * 9) + x9)) (zhw 2 (I (o + 2) (zx ((x9 * 6) + x6))) x7 (zpw 2 x7 (I (o + 1) (zx ((x9 * 6) + x6))) (I (o + 2) (zx ((x9 * 6) + x6))) x9))) o 1) x6 ((zup I24 47 (zx ((x3 * 9) + x9)) (zhw 2 (I (o + 2) (zx ((x9 * 6) + x6))) x7 (zpw 2 x7 (I (o + 1) (zx ((x9 * 6) + x6))) (I (o + 2) (zx ((x9 * 6) + x6))) x9))) (o + 6) (zx ((x3 * 8) + x9))))] (zh b (zup I24 47 (zx ((x3 * 9) + x9)) (zhw 2 (I (o + 2) (zx ((x9 * 6) + x6))) x7 (zpw 2 x7 (I (o + 1) (zx ((x9 * 6) + x6))) (I (o + 2) (zx ((x9 * 6) + x6))) x9))) L) R
      refine zi_istore (ls' := [some (.ref 43), some (.ref o), some (.ref 37), some (.int x3), some (.int x4), some (.ref (38 + 2)), some (.int (zlb ((zup I24 47 (zx ((x3 * 9) + x9)) (zhw 2 (I (o + 2) (zx ((x9 * 6) + x6))) x7 (zpw 2 x7 (I (o + 1) (zx ((x9 * 6) + x6))) (I (o + 2) (zx ((x9 * 6) + x6))) x9))) o 1) x6 ((zup I24 47 (zx ((x3 * 9) + x9)) (zhw 2 (I (o + 2) (zx ((x9 * 6) + x6))) x7 (zpw 2 x7 (I (o + 1) (zx ((x9 * 6) + x6))) (I (o + 2) (zx ((x9 * 6) + x6))) x9))) (o + 6) (zx ((x3 * 8) + x9))))), some (.int x7), some (.int (x8 + (ztw 2 (I (o + 2) (zx ((x9 * 6) + x6))) (zpw 2 x7 (I (o + 1) (zx ((x9 * 6) + x6))) (I (o + 2) (zx ((x9 * 6) + x6))) x9)))), some (.int x9), some (.int (I (o + 2) (zx ((x9 * 6) + x6)))), some (.int (zpw 2 x7 (I (o + 1) (zx ((x9 * 6) + x6))) (I (o + 2) (zx ((x9 * 6) + x6))) x9))]) dX10_follow_182 (by decide) rfl ?_
      refine zi_iload dX10_follow_184 rfl ?_
      refine zi_istore (ls' := [some (.ref 43), some (.ref o), some (.ref 37), some (.int x3), some (.int x4), some (.ref (38 + 2)), some (.int (zlb ((zup I24 47 (zx ((x3 * 9) + x9)) (zhw 2 (I (o + 2) (zx ((x9 * 6) + x6))) x7 (zpw 2 x7 (I (o + 1) (zx ((x9 * 6) + x6))) (I (o + 2) (zx ((x9 * 6) + x6))) x9))) o 1) x6 ((zup I24 47 (zx ((x3 * 9) + x9)) (zhw 2 (I (o + 2) (zx ((x9 * 6) + x6))) x7 (zpw 2 x7 (I (o + 1) (zx ((x9 * 6) + x6))) (I (o + 2) (zx ((x9 * 6) + x6))) x9))) (o + 6) (zx ((x3 * 8) + x9))))), some (.int (zpw 2 x7 (I (o + 1) (zx ((x9 * 6) + x6))) (I (o + 2) (zx ((x9 * 6) + x6))) x9)), some (.int (x8 + (ztw 2 (I (o + 2) (zx ((x9 * 6) + x6))) (zpw 2 x7 (I (o + 1) (zx ((x9 * 6) + x6))) (I (o + 2) (zx ((x9 * 6) + x6))) x9)))), some (.int x9), some (.int (I (o + 2) (zx ((x9 * 6) + x6)))), some (.int (zpw 2 x7 (I (o + 1) (zx ((x9 * 6) + x6))) (I (o + 2) (zx ((x9 * 6) + x6))) x9))]) dX10_follow_186 (by decide) rfl ?_
      refine zi_iinc (v := x9 + 1) (ls' := [some (.ref 43), some (.ref o), some (.ref 37), some (.int x3), some (.int x4), some (.ref (38 + 2)), some (.int (zlb ((zup I24 47 (zx ((x3 * 9) + x9)) (zhw 2 (I (o + 2) (zx ((x9 * 6) + x6))) x7 (zpw 2 x7 (I (o + 1) (zx ((x9 * 6) + x6))) (I (o + 2) (zx ((x9 * 6) + x6))) x9))) o 1) x6 ((zup I24 47 (zx ((x3 * 9) + x9)) (zhw 2 (I (o + 2) (zx ((x9 * 6) + x6))) x7 (zpw 2 x7 (I (o + 1) (zx ((x9 * 6) + x6))) (I (o + 2) (zx ((x9 * 6) + x6))) x9))) (o + 6) (zx ((x3 * 8) + x9))))), some (.int (zpw 2 x7 (I (o + 1) (zx ((x9 * 6) + x6))) (I (o + 2) (zx ((x9 * 6) + x6))) x9)), some (.int (x8 + (ztw 2 (I (o + 2) (zx ((x9 * 6) + x6))) (zpw 2 x7 (I (o + 1) (zx ((x9 * 6) + x6))) (I (o + 2) (zx ((x9 * 6) + x6))) x9)))), some (.int (x9 + 1)), some (.int (I (o + 2) (zx ((x9 * 6) + x6)))), some (.int (zpw 2 x7 (I (o + 1) (zx ((x9 * 6) + x6))) (I (o + 2) (zx ((x9 * 6) + x6))) x9))]) dX10_follow_188 rfl (by decide) rfl rfl ?_
      refine zi_goto (tgt := 29) dX10_follow_191 (by decide) ?_
      refine zi_mask [true, true, true, true, true, true, true, true, true, true, false, false] rfl ?_
      exact K
set_option maxRecDepth 100000 in
theorem tX10_harmInAll_0 {G : zG} {d b : Nat} {I : Nat → Nat → Int32} {L : Nat → Nat → Int64} {R : zR} {x1 : Int32} {x2 : Int32}
    (K : zA G (d + 1) mX10_harmInAll 5 [some (.ref 43), some (.int x1), some (.int x2), some (.int 0), some (.int 0)] [] (zh b I L) R) :
    zA G (d + 1) mX10_harmInAll 0 [some (.ref 43), some (.int x1), some (.int x2), none, none] [] (zh b I L) R := by
  refine zi_iconst (v := 0) dX10_harmInAll_0 (by decide) ?_
  refine zi_istore_n (ls' := [some (.ref 43), some (.int x1), some (.int x2), some (.int 0), none]) dX10_harmInAll_1 rfl (by decide) rfl ?_
  refine zi_iconst (v := 0) dX10_harmInAll_2 (by decide) ?_
  refine zi_istore (ls' := [some (.ref 43), some (.int x1), some (.int x2), some (.int 0), some (.int 0)]) dX10_harmInAll_3 (by decide) rfl ?_
  exact K
set_option maxRecDepth 100000 in
theorem tX10_harmInAll_5 {G : zG} {d b : Nat} {I : Nat → Nat → Int32} {L : Nat → Nat → Int64} {R : zR} {x1 : Int32} {x2 : Int32} {x3 : Int32} {x4 : Int32} (hR : zR0 R)
    (K : ((x2 ≤ x4 → R = (some (.int x3), zh b I L)) ∧ (¬ x2 ≤ x4 → (vp_in ((x1 * 9) + x4) 54 ∧ zA G (d + 1) mX10_harmInAll 5 [some (.ref 43), some (.int x1), some (.int x2), some (.int (x3 + (I 47 (zx ((x1 * 9) + x4))))), some (.int (x4 + 1))] [] (zh b I L) R)))) :
    zA G (d + 1) mX10_harmInAll 5 [some (.ref 43), some (.int x1), some (.int x2), some (.int x3), some (.int x4)] [] (zh b I L) R := by
  refine zi_iload dX10_harmInAll_5 rfl ?_
  refine zi_iload_n dX10_harmInAll_7 rfl rfl ?_
  refine zi_icmp_ge (tgt := 31) dX10_harmInAll_8 (by decide) (fun c1 => ?_) (fun c1 => ?_)
  · have K := K.1 c1
    refine zi_iload_n dX10_harmInAll_31 rfl rfl ?_
    subst K
    exact zi_ireturn dX10_harmInAll_32 rfl rfl
  · have K := K.2 c1
    refine zi_iload_n dX10_harmInAll_11 rfl rfl ?_
    refine zi_aload_n dX10_harmInAll_12 rfl rfl ?_
    refine zg_getF (k := 3) (v := .ref 47) dX10_harmInAll_13 zc10 rfl (Nat.le_of_ble_eq_true rfl) (Nat.le_of_ble_eq_true rfl) u_178 rfl (rfl) ?_
    refine zi_iload_n dX10_harmInAll_16 rfl rfl ?_
    refine zi_iload dX10_harmInAll_17 rfl ?_
    refine zi_callSN (N := mX11_onWay) (av := [.int x1, .int x4]) (st := [.ref 47, .int x3]) (R1 := (some (.int ((x1 * 9) + x4)), zh b I L)) dX10_harmInAll_19 okX11_onWay (by decide) u_516 arX11_onWay rfl (Nat.le_of_ble_eq_true rfl) (kX11_onWay _ _) hR ?_
    show zA G (d + 1) mX10_harmInAll 22 [some (.ref 43), some (.int x1), some (.int x2), some (.int x3), some (.int x4)] [.int ((x1 * 9) + x4), .ref 47, .int x3] (zh b I L) R
    have o2 := K.1
    have K := K.2
    refine zg_iaload dX10_harmInAll_22 (rfl) (Nat.le_of_ble_eq_true rfl) o2 ?_
    refine zi_iadd dX10_harmInAll_23 ?_
    refine zi_istore_n (ls' := [some (.ref 43), some (.int x1), some (.int x2), some (.int (x3 + (I 47 (zx ((x1 * 9) + x4))))), some (.int x4)]) dX10_harmInAll_24 rfl (by decide) rfl ?_
    refine zi_iinc (v := x4 + 1) (ls' := [some (.ref 43), some (.int x1), some (.int x2), some (.int (x3 + (I 47 (zx ((x1 * 9) + x4))))), some (.int (x4 + 1))]) dX10_harmInAll_25 rfl (by decide) rfl rfl ?_
    refine zi_goto (tgt := 5) dX10_harmInAll_28 (by decide) ?_
    exact K
set_option maxRecDepth 100000 in
theorem tX10_meet_0 {G : zG} {d b : Nat} {I : Nat → Nat → Int32} {L : Nat → Nat → Int64} {R : zR} {x1 : Int32} {x2 : Int32} {x3 : Int32} {x4 : Int32}
    (K : zA G (d + 1) mX10_meet 3 [some (.ref 43), some (.int x1), some (.int x2), some (.int x3), some (.int x4), some (.int 0)] [] (zh b I L) R) :
    zA G (d + 1) mX10_meet 0 [some (.ref 43), some (.int x1), some (.int x2), some (.int x3), some (.int x4), none] [] (zh b I L) R := by
  refine zi_iconst (v := 0) dX10_meet_0 (by decide) ?_
  refine zi_istore (ls' := [some (.ref 43), some (.int x1), some (.int x2), some (.int x3), some (.int x4), some (.int 0)]) dX10_meet_1 (by decide) rfl ?_
  exact K
set_option maxRecDepth 100000 in
theorem tX10_meet_3 {G : zG} {d b : Nat} {I : Nat → Nat → Int32} {L : Nat → Nat → Int64} {R : zR} {x1 : Int32} {x2 : Int32} {x3 : Int32} {x4 : Int32} {x5 : Int32} (hR : zR0 R)
    (K : ((x4 ≤ x5 → R = (some (.int 0), zh b I L)) ∧ (¬ x4 ≤ x5 → (vp_in ((x1 * 9) + x5) 54 ∧ (vp_in ((x2 * 9) + x5) 54 ∧ ((¬ (I 44 (zx ((x1 * 9) + x5))) = (I 44 (zx ((x2 * 9) + x5))) → zA G (d + 1) mX10_meet 3 [some (.ref 43), some (.int x1), some (.int x2), some (.int x3), some (.int x4), some (.int (x5 + 1))] [] (zh b I L) R) ∧ ((I 44 (zx ((x1 * 9) + x5))) = (I 44 (zx ((x2 * 9) + x5))) → (vp_in ((x1 * 9) + x5) 54 ∧ (vp_in ((x2 * 9) + (x5 + 1)) 54 ∧ ((((I 46 (zx ((x2 * 9) + (x5 + 1)))) + x3) ≤ (I 46 (zx ((x1 * 9) + x5))) → zA G (d + 1) mX10_meet 3 [some (.ref 43), some (.int x1), some (.int x2), some (.int x3), some (.int x4), some (.int (x5 + 1))] [] (zh b I L) R) ∧ (¬ ((I 46 (zx ((x2 * 9) + (x5 + 1)))) + x3) ≤ (I 46 (zx ((x1 * 9) + x5))) → (vp_in ((x2 * 9) + x5) 54 ∧ (vp_in ((x1 * 9) + (x5 + 1)) 54 ∧ (((I 46 (zx ((x1 * 9) + (x5 + 1)))) ≤ ((I 46 (zx ((x2 * 9) + x5))) + x3) → zA G (d + 1) mX10_meet 3 [some (.ref 43), some (.int x1), some (.int x2), some (.int x3), some (.int x4), some (.int (x5 + 1))] [] (zh b I L) R) ∧ (¬ (I 46 (zx ((x1 * 9) + (x5 + 1)))) ≤ ((I 46 (zx ((x2 * 9) + x5))) + x3) → R = (some (.int 1), zh b I L)))))))))))))))) :
    zA G (d + 1) mX10_meet 3 [some (.ref 43), some (.int x1), some (.int x2), some (.int x3), some (.int x4), some (.int x5)] [] (zh b I L) R := by
  refine zi_iload dX10_meet_3 rfl ?_
  refine zi_iload dX10_meet_5 rfl ?_
  refine zi_icmp_ge (tgt := 101) dX10_meet_7 (by decide) (fun c1 => ?_) (fun c1 => ?_)
  · have K := K.1 c1
    refine zi_iconst (v := 0) dX10_meet_101 (by decide) ?_
    subst K
    exact zi_ireturn dX10_meet_102 rfl (by decide)
  · have K := K.2 c1
    refine zi_aload_n dX10_meet_10 rfl rfl ?_
    refine zg_getF (k := 0) (v := .ref 44) dX10_meet_11 zc10 rfl (Nat.le_of_ble_eq_true rfl) (Nat.le_of_ble_eq_true rfl) u_172 rfl (rfl) ?_
    refine zi_iload_n dX10_meet_14 rfl rfl ?_
    refine zi_iload dX10_meet_15 rfl ?_
    refine zi_callSN (N := mX11_onWay) (av := [.int x1, .int x5]) (st := [.ref 44]) (R1 := (some (.int ((x1 * 9) + x5)), zh b I L)) dX10_meet_17 okX11_onWay (by decide) u_516 arX11_onWay rfl (Nat.le_of_ble_eq_true rfl) (kX11_onWay _ _) hR ?_
    show zA G (d + 1) mX10_meet 20 [some (.ref 43), some (.int x1), some (.int x2), some (.int x3), some (.int x4), some (.int x5)] [.int ((x1 * 9) + x5), .ref 44] (zh b I L) R
    have o2 := K.1
    have K := K.2
    refine zg_iaload dX10_meet_20 (rfl) (Nat.le_of_ble_eq_true rfl) o2 ?_
    refine zi_aload_n dX10_meet_21 rfl rfl ?_
    refine zg_getF (k := 0) (v := .ref 44) dX10_meet_22 zc10 rfl (Nat.le_of_ble_eq_true rfl) (Nat.le_of_ble_eq_true rfl) u_172 rfl (rfl) ?_
    refine zi_iload_n dX10_meet_25 rfl rfl ?_
    refine zi_iload dX10_meet_26 rfl ?_
    refine zi_callSN (N := mX11_onWay) (av := [.int x2, .int x5]) (st := [.ref 44, .int (I 44 (zx ((x1 * 9) + x5)))]) (R1 := (some (.int ((x2 * 9) + x5)), zh b I L)) dX10_meet_28 okX11_onWay (by decide) u_516 arX11_onWay rfl (Nat.le_of_ble_eq_true rfl) (kX11_onWay _ _) hR ?_
    show zA G (d + 1) mX10_meet 31 [some (.ref 43), some (.int x1), some (.int x2), some (.int x3), some (.int x4), some (.int x5)] [.int ((x2 * 9) + x5), .ref 44, .int (I 44 (zx ((x1 * 9) + x5)))] (zh b I L) R
    have o3 := K.1
    have K := K.2
    refine zg_iaload dX10_meet_31 (rfl) (Nat.le_of_ble_eq_true rfl) o3 ?_
    refine zi_icmp_ne (tgt := 95) dX10_meet_32 (by decide) (fun c4 => ?_) (fun c4 => ?_)
    · have K := K.1 c4
      refine zi_iinc (v := x5 + 1) (ls' := [some (.ref 43), some (.int x1), some (.int x2), some (.int x3), some (.int x4), some (.int (x5 + 1))]) dX10_meet_95 rfl (by decide) rfl rfl ?_
      refine zi_goto (tgt := 3) dX10_meet_98 (by decide) ?_
      exact K
    · have K := K.2 c4
      refine zi_aload_n dX10_meet_35 rfl rfl ?_
      refine zg_getF (k := 2) (v := .ref 46) dX10_meet_36 zc10 rfl (Nat.le_of_ble_eq_true rfl) (Nat.le_of_ble_eq_true rfl) u_176 rfl (rfl) ?_
      refine zi_iload_n dX10_meet_39 rfl rfl ?_
      refine zi_iload dX10_meet_40 rfl ?_
      refine zi_callSN (N := mX11_onWay) (av := [.int x1, .int x5]) (st := [.ref 46]) (R1 := (some (.int ((x1 * 9) + x5)), zh b I L)) dX10_meet_42 okX11_onWay (by decide) u_516 arX11_onWay rfl (Nat.le_of_ble_eq_true rfl) (kX11_onWay _ _) hR ?_
      show zA G (d + 1) mX10_meet 45 [some (.ref 43), some (.int x1), some (.int x2), some (.int x3), some (.int x4), some (.int x5)] [.int ((x1 * 9) + x5), .ref 46] (zh b I L) R
      have o5 := K.1
      have K := K.2
      refine zg_iaload dX10_meet_45 (rfl) (Nat.le_of_ble_eq_true rfl) o5 ?_
      refine zi_aload_n dX10_meet_46 rfl rfl ?_
      refine zg_getF (k := 2) (v := .ref 46) dX10_meet_47 zc10 rfl (Nat.le_of_ble_eq_true rfl) (Nat.le_of_ble_eq_true rfl) u_176 rfl (rfl) ?_
      refine zi_iload_n dX10_meet_50 rfl rfl ?_
      refine zi_iload dX10_meet_51 rfl ?_
      refine zi_iconst (v := 1) dX10_meet_53 (by decide) ?_
      refine zi_iadd dX10_meet_54 ?_
      refine zi_callSN (N := mX11_onWay) (av := [.int x2, .int (x5 + 1)]) (st := [.ref 46, .int (I 46 (zx ((x1 * 9) + x5)))]) (R1 := (some (.int ((x2 * 9) + (x5 + 1))), zh b I L)) dX10_meet_55 okX11_onWay (by decide) u_516 arX11_onWay rfl (Nat.le_of_ble_eq_true rfl) (kX11_onWay _ _) hR ?_
      show zA G (d + 1) mX10_meet 58 [some (.ref 43), some (.int x1), some (.int x2), some (.int x3), some (.int x4), some (.int x5)] [.int ((x2 * 9) + (x5 + 1)), .ref 46, .int (I 46 (zx ((x1 * 9) + x5)))] (zh b I L) R
      have o6 := K.1
      have K := K.2
      refine zg_iaload dX10_meet_58 (rfl) (Nat.le_of_ble_eq_true rfl) o6 ?_
      refine zi_iload_n dX10_meet_59 rfl rfl ?_
      refine zi_iadd dX10_meet_60 ?_
      refine zi_icmp_ge (tgt := 95) dX10_meet_61 (by decide) (fun c7 => ?_) (fun c7 => ?_)
      · have K := K.1 c7
        refine zi_iinc (v := x5 + 1) (ls' := [some (.ref 43), some (.int x1), some (.int x2), some (.int x3), some (.int x4), some (.int (x5 + 1))]) dX10_meet_95 rfl (by decide) rfl rfl ?_
        refine zi_goto (tgt := 3) dX10_meet_98 (by decide) ?_
        exact K
      · have K := K.2 c7
        refine zi_aload_n dX10_meet_64 rfl rfl ?_
        refine zg_getF (k := 2) (v := .ref 46) dX10_meet_65 zc10 rfl (Nat.le_of_ble_eq_true rfl) (Nat.le_of_ble_eq_true rfl) u_176 rfl (rfl) ?_
        refine zi_iload_n dX10_meet_68 rfl rfl ?_
        refine zi_iload dX10_meet_69 rfl ?_
        refine zi_callSN (N := mX11_onWay) (av := [.int x2, .int x5]) (st := [.ref 46]) (R1 := (some (.int ((x2 * 9) + x5)), zh b I L)) dX10_meet_71 okX11_onWay (by decide) u_516 arX11_onWay rfl (Nat.le_of_ble_eq_true rfl) (kX11_onWay _ _) hR ?_
        show zA G (d + 1) mX10_meet 74 [some (.ref 43), some (.int x1), some (.int x2), some (.int x3), some (.int x4), some (.int x5)] [.int ((x2 * 9) + x5), .ref 46] (zh b I L) R
        have o8 := K.1
        have K := K.2
        refine zg_iaload dX10_meet_74 (rfl) (Nat.le_of_ble_eq_true rfl) o8 ?_
        refine zi_iload_n dX10_meet_75 rfl rfl ?_
        refine zi_iadd dX10_meet_76 ?_
        refine zi_aload_n dX10_meet_77 rfl rfl ?_
        refine zg_getF (k := 2) (v := .ref 46) dX10_meet_78 zc10 rfl (Nat.le_of_ble_eq_true rfl) (Nat.le_of_ble_eq_true rfl) u_176 rfl (rfl) ?_
        refine zi_iload_n dX10_meet_81 rfl rfl ?_
        refine zi_iload dX10_meet_82 rfl ?_
        refine zi_iconst (v := 1) dX10_meet_84 (by decide) ?_
        refine zi_iadd dX10_meet_85 ?_
        refine zi_callSN (N := mX11_onWay) (av := [.int x1, .int (x5 + 1)]) (st := [.ref 46, .int ((I 46 (zx ((x2 * 9) + x5))) + x3)]) (R1 := (some (.int ((x1 * 9) + (x5 + 1))), zh b I L)) dX10_meet_86 okX11_onWay (by decide) u_516 arX11_onWay rfl (Nat.le_of_ble_eq_true rfl) (kX11_onWay _ _) hR ?_
        show zA G (d + 1) mX10_meet 89 [some (.ref 43), some (.int x1), some (.int x2), some (.int x3), some (.int x4), some (.int x5)] [.int ((x1 * 9) + (x5 + 1)), .ref 46, .int ((I 46 (zx ((x2 * 9) + x5))) + x3)] (zh b I L) R
        have o9 := K.1
        have K := K.2
        refine zg_iaload dX10_meet_89 (rfl) (Nat.le_of_ble_eq_true rfl) o9 ?_
        refine zi_icmp_ge (tgt := 95) dX10_meet_90 (by decide) (fun c10 => ?_) (fun c10 => ?_)
        · have K := K.1 c10
          refine zi_iinc (v := x5 + 1) (ls' := [some (.ref 43), some (.int x1), some (.int x2), some (.int x3), some (.int x4), some (.int (x5 + 1))]) dX10_meet_95 rfl (by decide) rfl rfl ?_
          refine zi_goto (tgt := 3) dX10_meet_98 (by decide) ?_
          exact K
        · have K := K.2 c10
          refine zi_iconst (v := 1) dX10_meet_93 (by decide) ?_
          subst K
          exact zi_ireturn dX10_meet_94 rfl (by decide)
set_option maxRecDepth 100000 in
theorem tX10_goersIn_0 {G : zG} {d b : Nat} {I : Nat → Nat → Int32} {L : Nat → Nat → Int64} {R : zR} {x1 : Int32} {x2 : Int32} {x3 : Int32}
    (K : zA G (d + 1) mX10_goersIn 6 [some (.ref 43), some (.int x1), some (.int x2), some (.int x3), some (.int 0), some (.int 0)] [] (zh b I L) R) :
    zA G (d + 1) mX10_goersIn 0 [some (.ref 43), some (.int x1), some (.int x2), some (.int x3), none, none] [] (zh b I L) R := by
  refine zi_iconst (v := 0) dX10_goersIn_0 (by decide) ?_
  refine zi_istore (ls' := [some (.ref 43), some (.int x1), some (.int x2), some (.int x3), some (.int 0), none]) dX10_goersIn_1 (by decide) rfl ?_
  refine zi_iconst (v := 0) dX10_goersIn_3 (by decide) ?_
  refine zi_istore (ls' := [some (.ref 43), some (.int x1), some (.int x2), some (.int x3), some (.int 0), some (.int 0)]) dX10_goersIn_4 (by decide) rfl ?_
  exact K
set_option maxRecDepth 100000 in
theorem tX10_goersIn_6 {G : zG} {d b : Nat} {I : Nat → Nat → Int32} {L : Nat → Nat → Int64} {R : zR} {x1 : Int32} {x2 : Int32} {x3 : Int32} {x4 : Int32} {x5 : Int32} (hR : zR0 R)
    (K : ((x3 ≤ x5 → R = (some (.int x4), zh b I L)) ∧ (¬ x3 ≤ x5 → (vp_in ((x5 * 9) + x1) 54 ∧ ((¬ (I 44 (zx ((x5 * 9) + x1))) = x2 → zA G (d + 1) mX10_goersIn 6 [some (.ref 43), some (.int x1), some (.int x2), some (.int x3), some (.int x4), some (.int (x5 + 1))] [] (zh b I L) R) ∧ ((I 44 (zx ((x5 * 9) + x1))) = x2 → zA G (d + 1) mX10_goersIn 6 [some (.ref 43), some (.int x1), some (.int x2), some (.int x3), some (.int (x4 + 1)), some (.int (x5 + 1))] [] (zh b I L) R)))))) :
    zA G (d + 1) mX10_goersIn 6 [some (.ref 43), some (.int x1), some (.int x2), some (.int x3), some (.int x4), some (.int x5)] [] (zh b I L) R := by
  refine zi_iload dX10_goersIn_6 rfl ?_
  refine zi_iload_n dX10_goersIn_8 rfl rfl ?_
  refine zi_icmp_ge (tgt := 36) dX10_goersIn_9 (by decide) (fun c1 => ?_) (fun c1 => ?_)
  · have K := K.1 c1
    refine zi_iload dX10_goersIn_36 rfl ?_
    subst K
    exact zi_ireturn dX10_goersIn_38 rfl rfl
  · have K := K.2 c1
    refine zi_aload_n dX10_goersIn_12 rfl rfl ?_
    refine zg_getF (k := 0) (v := .ref 44) dX10_goersIn_13 zc10 rfl (Nat.le_of_ble_eq_true rfl) (Nat.le_of_ble_eq_true rfl) u_172 rfl (rfl) ?_
    refine zi_iload dX10_goersIn_16 rfl ?_
    refine zi_iload_n dX10_goersIn_18 rfl rfl ?_
    refine zi_callSN (N := mX11_onWay) (av := [.int x5, .int x1]) (st := [.ref 44]) (R1 := (some (.int ((x5 * 9) + x1)), zh b I L)) dX10_goersIn_19 okX11_onWay (by decide) u_516 arX11_onWay rfl (Nat.le_of_ble_eq_true rfl) (kX11_onWay _ _) hR ?_
    show zA G (d + 1) mX10_goersIn 22 [some (.ref 43), some (.int x1), some (.int x2), some (.int x3), some (.int x4), some (.int x5)] [.int ((x5 * 9) + x1), .ref 44] (zh b I L) R
    have o2 := K.1
    have K := K.2
    refine zg_iaload dX10_goersIn_22 (rfl) (Nat.le_of_ble_eq_true rfl) o2 ?_
    refine zi_iload_n dX10_goersIn_23 rfl rfl ?_
    refine zi_icmp_ne (tgt := 30) dX10_goersIn_24 (by decide) (fun c3 => ?_) (fun c3 => ?_)
    · have K := K.1 c3
      refine zi_iinc (v := x5 + 1) (ls' := [some (.ref 43), some (.int x1), some (.int x2), some (.int x3), some (.int x4), some (.int (x5 + 1))]) dX10_goersIn_30 rfl (by decide) rfl rfl ?_
      refine zi_goto (tgt := 6) dX10_goersIn_33 (by decide) ?_
      exact K
    · have K := K.2 c3
      refine zi_iinc (v := x4 + 1) (ls' := [some (.ref 43), some (.int x1), some (.int x2), some (.int x3), some (.int (x4 + 1)), some (.int x5)]) dX10_goersIn_27 rfl (by decide) rfl rfl ?_
      refine zi_iinc (v := x5 + 1) (ls' := [some (.ref 43), some (.int x1), some (.int x2), some (.int x3), some (.int (x4 + 1)), some (.int (x5 + 1))]) dX10_goersIn_30 rfl (by decide) rfl rfl ?_
      refine zi_goto (tgt := 6) dX10_goersIn_33 (by decide) ?_
      exact K
