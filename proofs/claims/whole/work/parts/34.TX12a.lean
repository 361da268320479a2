/-! rows by program: X12_clean, X12_fraction, X12_hill, X12_put, X12_at, X12_joins, X12_runner, X12_line, X12_type, X12_clear, X12_next, X12_takes, X12_stops, X12_takesHill, X12_takesCell, X12_takesRunner, X12_takesLine, X12_takesAll, X12_read, X12_copy, X12_walk, X12_walks, X12_harm, X12_comesTo -/
set_option maxRecDepth 100000 in
theorem tX12_clean_0 {G : zG} {d b : Nat} {I : Nat → Nat → Int32} {L : Nat → Nat → Int64} {R : zR} {x1 : Int32} {x2 : Int32} {a : Nat} (ha : zsh a = (100, 463)) (la : a < 74)
    (K : zA G (d + 1) mX12_clean 2 [some (.ref a), some (.int x1), some (.int x2), some (.int 0)] [] (zh b I L) R) :
    zA G (d + 1) mX12_clean 0 [some (.ref a), some (.int x1), some (.int x2), none] [] (zh b I L) R := by
  refine zi_iconst (v := 0) dX12_clean_0 (by decide) ?_
  refine zi_istore_n (ls' := [some (.ref a), some (.int x1), some (.int x2), some (.int 0)]) dX12_clean_1 rfl (by decide) rfl ?_
  exact K
set_option maxRecDepth 100000 in
theorem tX12_clean_2 {G : zG} {d b : Nat} {I : Nat → Nat → Int32} {L : Nat → Nat → Int64} {R : zR} {x1 : Int32} {x2 : Int32} {x3 : Int32} {a : Nat} (ha : zsh a = (100, 463)) (la : a < 74) (hR : zR0 R)
    (K : ((463 ≤ x3 → (∀ I2 : Nat → Nat → Int32, I2 = (zup I a 0 x1) → R = (none, zh b (zup I2 a 1 x2) L))) ∧ (¬ 463 ≤ x3 → ((¬ (5 ≤ x3.toInt64 ∧ x3.toInt64 ≤ 52) → (vp_in x3 463 ∧ zA G (d + 1) mX12_clean 2 [some (.ref a), some (.int x1), some (.int x2), some (.int (x3 + 1))] [] (zh b (zup I a (zx x3) 0) L) R)) ∧ ((5 ≤ x3.toInt64 ∧ x3.toInt64 ≤ 52) → (vp_in x3 463 ∧ zA G (d + 1) mX12_clean 2 [some (.ref a), some (.int x1), some (.int x2), some (.int (x3 + 1))] [] (zh b (zup I a (zx x3) 3) L) R)))))) :
    zA G (d + 1) mX12_clean 2 [some (.ref a), some (.int x1), some (.int x2), some (.int x3)] [] (zh b I L) R := by
  refine zi_iload_n dX12_clean_2 rfl rfl ?_
  refine zi_sipush (v := 463) dX12_clean_3 (by decide) ?_
  refine zi_icmp_ge (tgt := 37) dX12_clean_6 (by decide) (fun c1 => ?_) (fun c1 => ?_)
  · have K := K.1 c1
    refine zi_aload_n dX12_clean_37 rfl rfl ?_
    refine zi_iconst (v := 0) dX12_clean_38 (by decide) ?_
    refine zi_iload_n dX12_clean_39 rfl rfl ?_
    refine zg_iastore dX12_clean_40 (ha) la (zvi (by decide)) ?_
    show zA G (d + 1) mX12_clean 41 [some (.ref a), some (.int x1), some (.int x2), some (.int x3)] [] (zh b (zup I a 0 x1) L) R
    refine zi_aload_n dX12_clean_41 rfl rfl ?_
    refine zi_iconst (v := 1) dX12_clean_42 (by decide) ?_
    refine zi_iload_n dX12_clean_43 rfl rfl ?_
    refine zi_name (fun I2 hI2 => ?_)
    have K := K I2 hI2
    refine zg_iastore dX12_clean_44 (ha) la (zvi (by decide)) ?_
    show zA G (d + 1) mX12_clean 45 [some (.ref a), some (.int x1), some (.int x2), some (.int x3)] [] (zh b (zup I2 a 1 x2) L) R
    subst K
    exact zi_return dX12_clean_45 rfl
  · have K := K.2 c1
    refine zi_aload_n dX12_clean_9 rfl rfl ?_
    refine zi_iload_n dX12_clean_10 rfl rfl ?_
    refine zi_iload_n dX12_clean_11 rfl rfl ?_
    refine zi_i2l dX12_clean_12 ?_
    refine zi_ldc2 dX12_clean_13 u_801 ?_
    refine zi_ldc2 dX12_clean_16 u_802 ?_
    refine zi_callS (N := mX12_in) (av := [.long x3.toInt64, .long 5, .long 52]) (st := [.int x3, .ref a]) (R1 := (some (.int (zb (5 ≤ x3.toInt64 ∧ x3.toInt64 ≤ 52))), zh b I L)) dX12_clean_19 okX12_in u_803 u_804 arX12_in rfl (Nat.le_of_ble_eq_true rfl) (kX12_in _ _ _) hR ?_
    show zA G (d + 1) mX12_clean 22 [some (.ref a), some (.int x1), some (.int x2), some (.int x3)] [.int (zb (5 ≤ x3.toInt64 ∧ x3.toInt64 ≤ 52)), .int x3, .ref a] (zh b I L) R
    refine zi_if_eq (tgt := 29) dX12_clean_22 (by decide) (fun c3 => ?_) (fun c3 => ?_)
    · have K := K.1 (zb_0 c3)
      refine zi_iconst (v := 0) dX12_clean_29 (by decide) ?_
      have o4 := K.1
      have K := K.2
      refine zg_iastore dX12_clean_30 (ha) la o4 ?_
      refine zi_iinc (v := x3 + 1) (ls' := [some (.ref a), some (.int x1), some (.int x2), some (.int (x3 + 1))]) dX12_clean_31 rfl (by decide) rfl rfl ?_
      refine zi_goto (tgt := 2) dX12_clean_34 (by decide) ?_
      exact K
    · have K := K.2 (zb_1 c3)
      refine zi_iconst (v := 3) dX12_clean_25 (by decide) ?_
      refine zi_goto (tgt := 30) dX12_clean_26 (by decide) ?_
      have o5 := K.1
      have K := K.2
      refine zg_iastore dX12_clean_30 (ha) la o5 ?_
      refine zi_iinc (v := x3 + 1) (ls' := [some (.ref a), some (.int x1), some (.int x2), some (.int (x3 + 1))]) dX12_clean_31 rfl (by decide) rfl rfl ?_
      refine zi_goto (tgt := 2) dX12_clean_34 (by decide) ?_
      exact K
set_option maxRecDepth 100000 in
theorem tX12_fraction_0 {G : zG} {d b : Nat} {I : Nat → Nat → Int32} {L : Nat → Nat → Int64} {R : zR} {x1 : Int64} {x3 : Int64}
    (K : zA G d mX12_fraction 6 [some (.ref 56), some (.long x1), none, some (.long x3), none, some (.long x1), none, some (.long x3), none, none, none] [] (zh b I L) R) :
    zA G d mX12_fraction 0 [some (.ref 56), some (.long x1), none, some (.long x3), none, none, none, none, none, none, none] [] (zh b I L) R := by
  refine zi_lload_n dX12_fraction_0 rfl rfl ?_
  refine zi_lstore (ls' := [some (.ref 56), some (.long x1), none, some (.long x3), none, some (.long x1), none, none, none, none, none]) dX12_fraction_1 (by decide) rfl ?_
  refine zi_lload_n dX12_fraction_3 rfl rfl ?_
  refine zi_lstore (ls' := [some (.ref 56), some (.long x1), none, some (.long x3), none, some (.long x1), none, some (.long x3), none, none, none]) dX12_fraction_4 (by decide) rfl ?_
  exact K
set_option maxRecDepth 100000 in
theorem tX12_fraction_6 {G : zG} {d b : Nat} {I : Nat → Nat → Int32} {L : Nat → Nat → Int64} {R : zR} {x1 : Int64} {x3 : Int64} {x5 : Int64} {x7 : Int64}
    (K : (((lg_cmp x7 0) = 0 → (¬ x5 = 0 ∧ (¬ x5 = 0 ∧ R = (some (.int 1), zh b I (zupL (zupL L 56 6 (x1 / x5)) 56 7 (x3 / x5)))))) ∧ (¬ (lg_cmp x7 0) = 0 → (¬ x7 = 0 ∧ zA G d mX12_fraction 6 [some (.ref 56), some (.long x1), none, some (.long x3), none, some (.long x7), none, some (.long (zremL x5 x7)), none, none, none] [] (zh b I L) R)))) :
    zA G d mX12_fraction 6 [some (.ref 56), some (.long x1), none, some (.long x3), none, some (.long x5), none, some (.long x7), none, none, none] [] (zh b I L) R := by
  refine zi_lload dX12_fraction_6 rfl ?_
  refine zi_lconst (v := 0) dX12_fraction_8 (by decide) ?_
  refine zi_lcmp dX12_fraction_9 ?_
  refine zi_if_eq (tgt := 31) dX12_fraction_10 (by decide) (fun c1 => ?_) (fun c1 => ?_)
  · have K := K.1 c1
    refine zi_aload_n dX12_fraction_31 rfl rfl ?_
    refine zi_lload_n dX12_fraction_32 rfl rfl ?_
    refine zi_lload dX12_fraction_33 rfl ?_
    have o2 := K.1
    have K := K.2
    refine zi_ldiv dX12_fraction_35 o2 ?_
    refine zg_putL (k := 6) dX12_fraction_36 zc12 rfl (Nat.le_of_ble_eq_true rfl) (Nat.le_of_ble_eq_true rfl) u_812 rfl rfl ?_
    refine zi_aload_n dX12_fraction_39 rfl rfl ?_
    refine zi_lload_n dX12_fraction_40 rfl rfl ?_
    refine zi_lload dX12_fraction_41 rfl ?_
    have o3 := K.1
    have K := K.2
    refine zi_ldiv dX12_fraction_43 o3 ?_
    refine zg_putL (k := 7) dX12_fraction_44 zc12 rfl (Nat.le_of_ble_eq_true rfl) (Nat.le_of_ble_eq_true rfl) u_813 rfl rfl ?_
    refine zi_iconst (v := 1) dX12_fraction_47 (by decide) ?_
    subst K
    exact zi_ireturn dX12_fraction_48 rfl rfl
  · have K := K.2 c1
    refine zi_lload dX12_fraction_13 rfl ?_
    refine zi_lload dX12_fraction_15 rfl ?_
    have o4 := K.1
    have K := K.2
    refine zi_lrem dX12_fraction_17 o4 ?_
    refine zi_lstore (ls' := [some (.ref 56), some (.long x1), none, some (.long x3), none, some (.long x5), none, some (.long x7), none, some (.long (zremL x5 x7)), none]) dX12_fraction_18 (by decide) rfl ?_
    refine zi_lload dX12_fraction_20 rfl ?_
    refine zi_lstore (ls' := [some (.ref 56), some (.long x1), none, some (.long x3), none, some (.long x7), none, some (.long x7), none, some (.long (zremL x5 x7)), none]) dX12_fraction_22 (by decide) rfl ?_
    refine zi_lload dX12_fraction_24 rfl ?_
    refine zi_lstore (ls' := [some (.ref 56), some (.long x1), none, some (.long x3), none, some (.long x7), none, some (.long (zremL x5 x7)), none, some (.long (zremL x5 x7)), none]) dX12_fraction_26 (by decide) rfl ?_
    refine zi_goto (tgt := 6) dX12_fraction_28 (by decide) ?_
    refine zi_mask [true, true, true, true, true, true, true, true, true, false, true] rfl ?_
    exact K
set_option maxRecDepth 100000 in
theorem tX12_hill_0 {G : zG} {d b : Nat} {I : Nat → Nat → Int32} {L : Nat → Nat → Int64} {R : zR} {x1 : Int32} {x2 : Int32} (hR : zR0 R)
    (K : ((¬ (1 ≤ x1.toInt64 ∧ x1.toInt64 ≤ 8) → (∃ (r2 : Int32) (I3 : Nat → Nat → Int32), zCall (d + 1) mX12_refuse [.ref 56, .int (-2)] (zh b I L) (some (.int r2), zh b I3 L) ∧ R = (some (.int r2), zh b I3 L))) ∧ ((1 ≤ x1.toInt64 ∧ x1.toInt64 ≤ 8) → (((1 ≤ x2.toInt64 ∧ x2.toInt64 ≤ 6) → (∃ (I6 : Nat → Nat → Int32), zCall (d + 1) mX12_clean [.ref 57, .int x1, .int x2] (zh b I L) (none, zh b I6 L) ∧ R = (some (.int 1), zh b I6 L))) ∧ (¬ (1 ≤ x2.toInt64 ∧ x2.toInt64 ≤ 6) → (∃ (r8 : Int32) (I9 : Nat → Nat → Int32), zCall (d + 1) mX12_refuse [.ref 56, .int (-2)] (zh b I L) (some (.int r8), zh b I9 L) ∧ R = (some (.int r8), zh b I9 L))))))) :
    zA G (d + 2) mX12_hill 0 [some (.ref 56), some (.int x1), some (.int x2)] [] (zh b I L) R := by
  refine zi_iload_n dX12_hill_0 rfl rfl ?_
  refine zi_i2l dX12_hill_1 ?_
  refine zi_lconst (v := 1) dX12_hill_2 (by decide) ?_
  refine zi_ldc2 dX12_hill_3 u_884 ?_
  refine zi_callS (N := mX12_in) (av := [.long x1.toInt64, .long 1, .long 8]) (st := []) (R1 := (some (.int (zb (1 ≤ x1.toInt64 ∧ x1.toInt64 ≤ 8))), zh b I L)) dX12_hill_6 okX12_in u_803 u_804 arX12_in rfl (Nat.le_of_ble_eq_true rfl) (kX12_in _ _ _) hR ?_
  show zA G (d + 2) mX12_hill 9 [some (.ref 56), some (.int x1), some (.int x2)] [.int (zb (1 ≤ x1.toInt64 ∧ x1.toInt64 ≤ 8))] (zh b I L) R
  refine zi_if_eq (tgt := 24) dX12_hill_9 (by decide) (fun c1 => ?_) (fun c1 => ?_)
  · have K := K.1 (zb_0 c1)
    refine zi_aload_n dX12_hill_24 rfl rfl ?_
    refine zi_bipush (v := (-2)) dX12_hill_25 (by decide) ?_
    obtain ⟨r2, I3, h4, K⟩ := K
    refine zi_callV (N := mX12_refuse) (av := [.int (-2)]) (st := []) (R1 := (some (.int r2), zh b I3 L)) dX12_hill_27 okX12_refuse u_886 u_888 s_23 zc12 (rfl) (Nat.le_of_ble_eq_true rfl) arX12_refuse rfl (Nat.le_of_ble_eq_true rfl) (h4) hR ?_
    show zA G (d + 2) mX12_hill 30 [some (.ref 56), some (.int x1), some (.int x2)] [.int r2] (zh b I3 L) R
    subst K
    exact zi_ireturn dX12_hill_30 rfl rfl
  · have K := K.2 (zb_1 c1)
    refine zi_iload_n dX12_hill_12 rfl rfl ?_
    refine zi_i2l dX12_hill_13 ?_
    refine zi_lconst (v := 1) dX12_hill_14 (by decide) ?_
    refine zi_ldc2 dX12_hill_15 u_885 ?_
    refine zi_callS (N := mX12_in) (av := [.long x2.toInt64, .long 1, .long 6]) (st := []) (R1 := (some (.int (zb (1 ≤ x2.toInt64 ∧ x2.toInt64 ≤ 6))), zh b I L)) dX12_hill_18 okX12_in u_803 u_804 arX12_in rfl (Nat.le_of_ble_eq_true rfl) (kX12_in _ _ _) hR ?_
    show zA G (d + 2) mX12_hill 21 [some (.ref 56), some (.int x1), some (.int x2)] [.int (zb (1 ≤ x2.toInt64 ∧ x2.toInt64 ≤ 6))] (zh b I L) R
    refine zi_if_ne (tgt := 31) dX12_hill_21 (by decide) (fun c5 => ?_) (fun c5 => ?_)
    · have K := K.1 (zb_1 c5)
      refine zi_aload_n dX12_hill_31 rfl rfl ?_
      refine zg_getF (k := 0) (v := .ref 57) dX12_hill_32 zc12 rfl (Nat.le_of_ble_eq_true rfl) (Nat.le_of_ble_eq_true rfl) u_806 rfl (rfl) ?_
      refine zi_iload_n dX12_hill_35 rfl rfl ?_
      refine zi_iload_n dX12_hill_36 rfl rfl ?_
      obtain ⟨I6, h7, K⟩ := K
      refine zi_callS (N := mX12_clean) (av := [.ref 57, .int x1, .int x2]) (st := []) (R1 := (none, zh b I6 L)) dX12_hill_37 okX12_clean u_798 u_799 arX12_clean rfl (Nat.le_of_ble_eq_true rfl) (h7) hR ?_
      show zA G (d + 2) mX12_hill 40 [some (.ref 56), some (.int x1), some (.int x2)] [] (zh b I6 L) R
      refine zi_iconst (v := 1) dX12_hill_40 (by decide) ?_
      subst K
      exact zi_ireturn dX12_hill_41 rfl rfl
    · have K := K.2 (zb_0 c5)
      refine zi_aload_n dX12_hill_24 rfl rfl ?_
      refine zi_bipush (v := (-2)) dX12_hill_25 (by decide) ?_
      obtain ⟨r8, I9, h10, K⟩ := K
      refine zi_callV (N := mX12_refuse) (av := [.int (-2)]) (st := []) (R1 := (some (.int r8), zh b I9 L)) dX12_hill_27 okX12_refuse u_886 u_888 s_23 zc12 (rfl) (Nat.le_of_ble_eq_true rfl) arX12_refuse rfl (Nat.le_of_ble_eq_true rfl) (h10) hR ?_
      show zA G (d + 2) mX12_hill 30 [some (.ref 56), some (.int x1), some (.int x2)] [.int r8] (zh b I9 L) R
      subst K
      exact zi_ireturn dX12_hill_30 rfl rfl
set_option maxRecDepth 100000 in
theorem tX12_put_0 {G : zG} {d b : Nat} {I : Nat → Nat → Int32} {L : Nat → Nat → Int64} {R : zR} {x1 : Int32} {x2 : Int32} {x3 : Int32} {x4 : Int32} (hR : zR0 R)
    (K : ((¬ (0 ≤ x1.toInt64 ∧ x1.toInt64 ≤ 1) → (∃ (r2 : Int32) (I3 : Nat → Nat → Int32), zCall (d + 1) mX12_refuse [.ref 56, .int (-2)] (zh b I L) (some (.int r2), zh b I3 L) ∧ R = (some (.int r2), zh b I3 L))) ∧ ((0 ≤ x1.toInt64 ∧ x1.toInt64 ≤ 1) → ((¬ ((0 ≤ x2.toInt64 ∧ x2.toInt64 ≤ (I 57 0 - 1).toInt64) ∧ (0 ≤ x3.toInt64 ∧ x3.toInt64 ≤ (I 57 1 - 1).toInt64)) → (∃ (r6 : Int32) (I7 : Nat → Nat → Int32), zCall (d + 1) mX12_refuse [.ref 56, .int (-2)] (zh b I L) (some (.int r6), zh b I7 L) ∧ R = (some (.int r6), zh b I7 L))) ∧ (((0 ≤ x2.toInt64 ∧ x2.toInt64 ≤ (I 57 0 - 1).toInt64) ∧ (0 ≤ x3.toInt64 ∧ x3.toInt64 ≤ (I 57 1 - 1).toInt64)) → ((¬ x1 = 0 → (((0 ≤ x4.toInt64 ∧ x4.toInt64 ≤ 3) → (vp_in (zca x1 x2 x3) 463 ∧ (vp_in (zca x1 x2 x3) 463 ∧ R = (some (.int (I 57 (zx (zca x1 x2 x3)))), zh b (zup I 57 (zx (zca x1 x2 x3)) x4) L)))) ∧ (¬ (0 ≤ x4.toInt64 ∧ x4.toInt64 ≤ 3) → (∃ (r13 : Int32) (I14 : Nat → Nat → Int32), zCall (d + 1) mX12_refuse [.ref 56, .int (-2)] (zh b I L) (some (.int r13), zh b I14 L) ∧ R = (some (.int r13), zh b I14 L))))) ∧ (x1 = 0 → (((0 ≤ x4.toInt64 ∧ x4.toInt64 ≤ 9) → (vp_in (zca x1 x2 x3) 463 ∧ (vp_in (zca x1 x2 x3) 463 ∧ R = (some (.int (I 57 (zx (zca x1 x2 x3)))), zh b (zup I 57 (zx (zca x1 x2 x3)) x4) L)))) ∧ (¬ (0 ≤ x4.toInt64 ∧ x4.toInt64 ≤ 9) → (∃ (r19 : Int32) (I20 : Nat → Nat → Int32), zCall (d + 1) mX12_refuse [.ref 56, .int (-2)] (zh b I L) (some (.int r19), zh b I20 L) ∧ R = (some (.int r19), zh b I20 L))))))))))) :
    zA G (d + 2) mX12_put 0 [some (.ref 56), some (.int x1), some (.int x2), some (.int x3), some (.int x4), none] [] (zh b I L) R := by
  refine zi_iload_n dX12_put_0 rfl rfl ?_
  refine zi_i2l dX12_put_1 ?_
  refine zi_lconst (v := 0) dX12_put_2 (by decide) ?_
  refine zi_lconst (v := 1) dX12_put_3 (by decide) ?_
  refine zi_callS (N := mX12_in) (av := [.long x1.toInt64, .long 0, .long 1]) (st := []) (R1 := (some (.int (zb (0 ≤ x1.toInt64 ∧ x1.toInt64 ≤ 1))), zh b I L)) dX12_put_4 okX12_in u_803 u_804 arX12_in rfl (Nat.le_of_ble_eq_true rfl) (kX12_in _ _ _) hR ?_
  show zA G (d + 2) mX12_put 7 [some (.ref 56), some (.int x1), some (.int x2), some (.int x3), some (.int x4), none] [.int (zb (0 ≤ x1.toInt64 ∧ x1.toInt64 ≤ 1))] (zh b I L) R
  refine zi_if_eq (tgt := 45) dX12_put_7 (by decide) (fun c1 => ?_) (fun c1 => ?_)
  · have K := K.1 (zb_0 c1)
    refine zi_aload_n dX12_put_45 rfl rfl ?_
    refine zi_bipush (v := (-2)) dX12_put_46 (by decide) ?_
    obtain ⟨r2, I3, h4, K⟩ := K
    refine zi_callV (N := mX12_refuse) (av := [.int (-2)]) (st := []) (R1 := (some (.int r2), zh b I3 L)) dX12_put_48 okX12_refuse u_886 u_888 s_23 zc12 (rfl) (Nat.le_of_ble_eq_true rfl) arX12_refuse rfl (Nat.le_of_ble_eq_true rfl) (h4) hR ?_
    show zA G (d + 2) mX12_put 51 [some (.ref 56), some (.int x1), some (.int x2), some (.int x3), some (.int x4), none] [.int r2] (zh b I3 L) R
    subst K
    exact zi_ireturn dX12_put_51 rfl rfl
  · have K := K.2 (zb_1 c1)
    refine zi_aload_n dX12_put_10 rfl rfl ?_
    refine zg_getF (k := 0) (v := .ref 57) dX12_put_11 zc12 rfl (Nat.le_of_ble_eq_true rfl) (Nat.le_of_ble_eq_true rfl) u_806 rfl (rfl) ?_
    refine zi_iload_n dX12_put_14 rfl rfl ?_
    refine zi_iload_n dX12_put_15 rfl rfl ?_
    refine zi_callS (N := mX12_isCell) (av := [.ref 57, .int x2, .int x3]) (st := []) (R1 := (some (.int (zb ((0 ≤ x2.toInt64 ∧ x2.toInt64 ≤ (I 57 0 - 1).toInt64) ∧ (0 ≤ x3.toInt64 ∧ x3.toInt64 ≤ (I 57 1 - 1).toInt64)))), zh b I L)) dX12_put_16 okX12_isCell u_894 u_895 arX12_isCell rfl (Nat.le_of_ble_eq_true rfl) (kX12_isCell57 _ _) hR ?_
    show zA G (d + 2) mX12_put 19 [some (.ref 56), some (.int x1), some (.int x2), some (.int x3), some (.int x4), none] [.int (zb ((0 ≤ x2.toInt64 ∧ x2.toInt64 ≤ (I 57 0 - 1).toInt64) ∧ (0 ≤ x3.toInt64 ∧ x3.toInt64 ≤ (I 57 1 - 1).toInt64)))] (zh b I L) R
    refine zi_if_eq (tgt := 45) dX12_put_19 (by decide) (fun c5 => ?_) (fun c5 => ?_)
    · have K := K.1 (zb_0 c5)
      refine zi_aload_n dX12_put_45 rfl rfl ?_
      refine zi_bipush (v := (-2)) dX12_put_46 (by decide) ?_
      obtain ⟨r6, I7, h8, K⟩ := K
      refine zi_callV (N := mX12_refuse) (av := [.int (-2)]) (st := []) (R1 := (some (.int r6), zh b I7 L)) dX12_put_48 okX12_refuse u_886 u_888 s_23 zc12 (rfl) (Nat.le_of_ble_eq_true rfl) arX12_refuse rfl (Nat.le_of_ble_eq_true rfl) (h8) hR ?_
      show zA G (d + 2) mX12_put 51 [some (.ref 56), some (.int x1), some (.int x2), some (.int x3), some (.int x4), none] [.int r6] (zh b I7 L) R
      subst K
      exact zi_ireturn dX12_put_51 rfl rfl
    · have K := K.2 (zb_1 c5)
      refine zi_iload dX12_put_22 rfl ?_
      refine zi_i2l dX12_put_24 ?_
      refine zi_lconst (v := 0) dX12_put_25 (by decide) ?_
      refine zi_iload_n dX12_put_26 rfl rfl ?_
      refine zi_if_ne (tgt := 36) dX12_put_27 (by decide) (fun c9 => ?_) (fun c9 => ?_)
      · have K := K.1 c9
        refine zi_ldc2 dX12_put_36 u_898 ?_
        refine zi_callS (N := mX12_in) (av := [.long x4.toInt64, .long 0, .long 3]) (st := []) (R1 := (some (.int (zb (0 ≤ x4.toInt64 ∧ x4.toInt64 ≤ 3))), zh b I L)) dX12_put_39 okX12_in u_803 u_804 arX12_in rfl (Nat.le_of_ble_eq_true rfl) (kX12_in _ _ _) hR ?_
        show zA G (d + 2) mX12_put 42 [some (.ref 56), some (.int x1), some (.int x2), some (.int x3), some (.int x4), none] [.int (zb (0 ≤ x4.toInt64 ∧ x4.toInt64 ≤ 3))] (zh b I L) R
        refine zi_if_ne (tgt := 52) dX12_put_42 (by decide) (fun c10 => ?_) (fun c10 => ?_)
        · have K := K.1 (zb_1 c10)
          refine zi_aload_n dX12_put_52 rfl rfl ?_
          refine zg_getF (k := 0) (v := .ref 57) dX12_put_53 zc12 rfl (Nat.le_of_ble_eq_true rfl) (Nat.le_of_ble_eq_true rfl) u_806 rfl (rfl) ?_
          refine zi_iload_n dX12_put_56 rfl rfl ?_
          refine zi_iload_n dX12_put_57 rfl rfl ?_
          refine zi_iload_n dX12_put_58 rfl rfl ?_
          refine zi_callS (N := mX12_cellAt) (av := [.int x1, .int x2, .int x3]) (st := [.ref 57]) (R1 := (some (.int (zca x1 x2 x3)), zh b I L)) dX12_put_59 okX12_cellAt u_899 u_900 arX12_cellAt rfl (Nat.le_of_ble_eq_true rfl) (kX12_cellAt _ _ _) hR ?_
          show zA G (d + 2) mX12_put 62 [some (.ref 56), some (.int x1), some (.int x2), some (.int x3), some (.int x4), none] [.int (zca x1 x2 x3), .ref 57] (zh b I L) R
          have o11 := K.1
          have K := K.2
          refine zg_iaload dX12_put_62 (rfl) (Nat.le_of_ble_eq_true rfl) o11 ?_
          refine zi_istore (ls' := [some (.ref 56), some (.int x1), some (.int x2), some (.int x3), some (.int x4), some (.int (I 57 (zx (zca x1 x2 x3))))]) dX12_put_63 (by decide) rfl ?_
          refine zi_aload_n dX12_put_65 rfl rfl ?_
          refine zg_getF (k := 0) (v := .ref 57) dX12_put_66 zc12 rfl (Nat.le_of_ble_eq_true rfl) (Nat.le_of_ble_eq_true rfl) u_806 rfl (rfl) ?_
          refine zi_iload_n dX12_put_69 rfl rfl ?_
          refine zi_iload_n dX12_put_70 rfl rfl ?_
          refine zi_iload_n dX12_put_71 rfl rfl ?_
          refine zi_callS (N := mX12_cellAt) (av := [.int x1, .int x2, .int x3]) (st := [.ref 57]) (R1 := (some (.int (zca x1 x2 x3)), zh b I L)) dX12_put_72 okX12_cellAt u_899 u_900 arX12_cellAt rfl (Nat.le_of_ble_eq_true rfl) (kX12_cellAt _ _ _) hR ?_
          show zA G (d + 2) mX12_put 75 [some (.ref 56), some (.int x1), some (.int x2), some (.int x3), some (.int x4), some (.int (I 57 (zx (zca x1 x2 x3))))] [.int (zca x1 x2 x3), .ref 57] (zh b I L) R
          refine zi_iload dX12_put_75 rfl ?_
          have o12 := K.1
          have K := K.2
          refine zg_iastore dX12_put_77 (rfl) (Nat.le_of_ble_eq_true rfl) o12 ?_
          refine zi_iload dX12_put_78 rfl ?_
          subst K
          exact zi_ireturn dX12_put_80 rfl rfl
        · have K := K.2 (zb_0 c10)
          refine zi_aload_n dX12_put_45 rfl rfl ?_
          refine zi_bipush (v := (-2)) dX12_put_46 (by decide) ?_
          obtain ⟨r13, I14, h15, K⟩ := K
          refine zi_callV (N := mX12_refuse) (av := [.int (-2)]) (st := []) (R1 := (some (.int r13), zh b I14 L)) dX12_put_48 okX12_refuse u_886 u_888 s_23 zc12 (rfl) (Nat.le_of_ble_eq_true rfl) arX12_refuse rfl (Nat.le_of_ble_eq_true rfl) (h15) hR ?_
          show zA G (d + 2) mX12_put 51 [some (.ref 56), some (.int x1), some (.int x2), some (.int x3), some (.int x4), none] [.int r13] (zh b I14 L) R
          subst K
          exact zi_ireturn dX12_put_51 rfl rfl
      · have K := K.2 c9
        refine zi_ldc2 dX12_put_30 u_897 ?_
        refine zi_goto (tgt := 39) dX12_put_33 (by decide) ?_
        refine zi_callS (N := mX12_in) (av := [.long x4.toInt64, .long 0, .long 9]) (st := []) (R1 := (some (.int (zb (0 ≤ x4.toInt64 ∧ x4.toInt64 ≤ 9))), zh b I L)) dX12_put_39 okX12_in u_803 u_804 arX12_in rfl (Nat.le_of_ble_eq_true rfl) (kX12_in _ _ _) hR ?_
        show zA G (d + 2) mX12_put 42 [some (.ref 56), some (.int x1), some (.int x2), some (.int x3), some (.int x4), none] [.int (zb (0 ≤ x4.toInt64 ∧ x4.toInt64 ≤ 9))] (zh b I L) R
        refine zi_if_ne (tgt := 52) dX12_put_42 (by decide) (fun c16 => ?_) (fun c16 => ?_)
        · have K := K.1 (zb_1 c16)
          refine zi_aload_n dX12_put_52 rfl rfl ?_
          refine zg_getF (k := 0) (v := .ref 57) dX12_put_53 zc12 rfl (Nat.le_of_ble_eq_true rfl) (Nat.le_of_ble_eq_true rfl) u_806 rfl (rfl) ?_
          refine zi_iload_n dX12_put_56 rfl rfl ?_
          refine zi_iload_n dX12_put_57 rfl rfl ?_
          refine zi_iload_n dX12_put_58 rfl rfl ?_
          refine zi_callS (N := mX12_cellAt) (av := [.int x1, .int x2, .int x3]) (st := [.ref 57]) (R1 := (some (.int (zca x1 x2 x3)), zh b I L)) dX12_put_59 okX12_cellAt u_899 u_900 arX12_cellAt rfl (Nat.le_of_ble_eq_true rfl) (kX12_cellAt _ _ _) hR ?_
          show zA G (d + 2) mX12_put 62 [some (.ref 56), some (.int x1), some (.int x2), some (.int x3), some (.int x4), none] [.int (zca x1 x2 x3), .ref 57] (zh b I L) R
          have o17 := K.1
          have K := K.2
          refine zg_iaload dX12_put_62 (rfl) (Nat.le_of_ble_eq_true rfl) o17 ?_
          refine zi_istore (ls' := [some (.ref 56), some (.int x1), some (.int x2), some (.int x3), some (.int x4), some (.int (I 57 (zx (zca x1 x2 x3))))]) dX12_put_63 (by decide) rfl ?_
          refine zi_aload_n dX12_put_65 rfl rfl ?_
          refine zg_getF (k := 0) (v := .ref 57) dX12_put_66 zc12 rfl (Nat.le_of_ble_eq_true rfl) (Nat.le_of_ble_eq_true rfl) u_806 rfl (rfl) ?_
          refine zi_iload_n dX12_put_69 rfl rfl ?_
          refine zi_iload_n dX12_put_70 rfl rfl ?_
          refine zi_iload_n dX12_put_71 rfl rfl ?_
          refine zi_callS (N := mX12_cellAt) (av := [.int x1, .int x2, .int x3]) (st := [.ref 57]) (R1 := (some (.int (zca x1 x2 x3)), zh b I L)) dX12_put_72 okX12_cellAt u_899 u_900 arX12_cellAt rfl (Nat.le_of_ble_eq_true rfl) (kX12_cellAt _ _ _) hR ?_
          show zA G (d + 2) mX12_put 75 [some (.ref 56), some (.int x1), some (.int x2), some (.int x3), some (.int x4), some (.int (I 57 (zx (zca x1 x2 x3))))] [.int (zca x1 x2 x3), .ref 57] (zh b I L) R
          refine zi_iload dX12_put_75 rfl ?_
          have o18 := K.1
          have K := K.2
          refine zg_iastore dX12_put_77 (rfl) (Nat.le_of_ble_eq_true rfl) o18 ?_
          refine zi_iload dX12_put_78 rfl ?_
          subst K
          exact zi_ireturn dX12_put_80 rfl rfl
        · have K := K.2 (zb_0 c16)
          refine zi_aload_n dX12_put_45 rfl rfl ?_
          refine zi_bipush (v := (-2)) dX12_put_46 (by decide) ?_
          obtain ⟨r19, I20, h21, K⟩ := K
          refine zi_callV (N := mX12_refuse) (av := [.int (-2)]) (st := []) (R1 := (some (.int r19), zh b I20 L)) dX12_put_48 okX12_refuse u_886 u_888 s_23 zc12 (rfl) (Nat.le_of_ble_eq_true rfl) arX12_refuse rfl (Nat.le_of_ble_eq_true rfl) (h21) hR ?_
          show zA G (d + 2) mX12_put 51 [some (.ref 56), some (.int x1), some (.int x2), some (.int x3), some (.int x4), none] [.int r19] (zh b I20 L) R
          subst K
          exact zi_ireturn dX12_put_51 rfl rfl
set_option maxRecDepth 100000 in
theorem tX12_at_0 {G : zG} {d b : Nat} {I : Nat → Nat → Int32} {L : Nat → Nat → Int64} {R : zR} {x1 : Int32} {x2 : Int32} {x3 : Int32} (hR : zR0 R)
    (K : ((¬ (0 ≤ x1.toInt64 ∧ x1.toInt64 ≤ 1) → (∃ (r2 : Int32) (I3 : Nat → Nat → Int32), zCall (d + 1) mX12_refuse [.ref 56, .int (-2)] (zh b I L) (some (.int r2), zh b I3 L) ∧ R = (some (.int r2), zh b I3 L))) ∧ ((0 ≤ x1.toInt64 ∧ x1.toInt64 ≤ 1) → ((¬ ((0 ≤ x2.toInt64 ∧ x2.toInt64 ≤ (I 57 0 - 1).toInt64) ∧ (0 ≤ x3.toInt64 ∧ x3.toInt64 ≤ (I 57 1 - 1).toInt64)) → (∃ (r6 : Int32) (I7 : Nat → Nat → Int32), zCall (d + 1) mX12_refuse [.ref 56, .int (-2)] (zh b I L) (some (.int r6), zh b I7 L) ∧ R = (some (.int r6), zh b I7 L))) ∧ (((0 ≤ x2.toInt64 ∧ x2.toInt64 ≤ (I 57 0 - 1).toInt64) ∧ (0 ≤ x3.toInt64 ∧ x3.toInt64 ≤ (I 57 1 - 1).toInt64)) → (vp_in (zca x1 x2 x3) 463 ∧ R = (some (.int (I 57 (zx (zca x1 x2 x3)))), zh b I L))))))) :
    zA G (d + 2) mX12_at 0 [some (.ref 56), some (.int x1), some (.int x2), some (.int x3)] [] (zh b I L) R := by
  refine zi_iload_n dX12_at_0 rfl rfl ?_
  refine zi_i2l dX12_at_1 ?_
  refine zi_lconst (v := 0) dX12_at_2 (by decide) ?_
  refine zi_lconst (v := 1) dX12_at_3 (by decide) ?_
  refine zi_callS (N := mX12_in) (av := [.long x1.toInt64, .long 0, .long 1]) (st := []) (R1 := (some (.int (zb (0 ≤ x1.toInt64 ∧ x1.toInt64 ≤ 1))), zh b I L)) dX12_at_4 okX12_in u_803 u_804 arX12_in rfl (Nat.le_of_ble_eq_true rfl) (kX12_in _ _ _) hR ?_
  show zA G (d + 2) mX12_at 7 [some (.ref 56), some (.int x1), some (.int x2), some (.int x3)] [.int (zb (0 ≤ x1.toInt64 ∧ x1.toInt64 ≤ 1))] (zh b I L) R
  refine zi_if_eq (tgt := 36) dX12_at_7 (by decide) (fun c1 => ?_) (fun c1 => ?_)
  · have K := K.1 (zb_0 c1)
    refine zi_aload_n dX12_at_36 rfl rfl ?_
    refine zi_bipush (v := (-2)) dX12_at_37 (by decide) ?_
    obtain ⟨r2, I3, h4, K⟩ := K
    refine zi_callV (N := mX12_refuse) (av := [.int (-2)]) (st := []) (R1 := (some (.int r2), zh b I3 L)) dX12_at_39 okX12_refuse u_886 u_888 s_23 zc12 (rfl) (Nat.le_of_ble_eq_true rfl) arX12_refuse rfl (Nat.le_of_ble_eq_true rfl) (h4) hR ?_
    show zA G (d + 2) mX12_at 42 [some (.ref 56), some (.int x1), some (.int x2), some (.int x3)] [.int r2] (zh b I3 L) R
    subst K
    exact zi_ireturn dX12_at_42 rfl rfl
  · have K := K.2 (zb_1 c1)
    refine zi_aload_n dX12_at_10 rfl rfl ?_
    refine zg_getF (k := 0) (v := .ref 57) dX12_at_11 zc12 rfl (Nat.le_of_ble_eq_true rfl) (Nat.le_of_ble_eq_true rfl) u_806 rfl (rfl) ?_
    refine zi_iload_n dX12_at_14 rfl rfl ?_
    refine zi_iload_n dX12_at_15 rfl rfl ?_
    refine zi_callS (N := mX12_isCell) (av := [.ref 57, .int x2, .int x3]) (st := []) (R1 := (some (.int (zb ((0 ≤ x2.toInt64 ∧ x2.toInt64 ≤ (I 57 0 - 1).toInt64) ∧ (0 ≤ x3.toInt64 ∧ x3.toInt64 ≤ (I 57 1 - 1).toInt64)))), zh b I L)) dX12_at_16 okX12_isCell u_894 u_895 arX12_isCell rfl (Nat.le_of_ble_eq_true rfl) (kX12_isCell57 _ _) hR ?_
    show zA G (d + 2) mX12_at 19 [some (.ref 56), some (.int x1), some (.int x2), some (.int x3)] [.int (zb ((0 ≤ x2.toInt64 ∧ x2.toInt64 ≤ (I 57 0 - 1).toInt64) ∧ (0 ≤ x3.toInt64 ∧ x3.toInt64 ≤ (I 57 1 - 1).toInt64)))] (zh b I L) R
    refine zi_if_eq (tgt := 36) dX12_at_19 (by decide) (fun c5 => ?_) (fun c5 => ?_)
    · have K := K.1 (zb_0 c5)
      refine zi_aload_n dX12_at_36 rfl rfl ?_
      refine zi_bipush (v := (-2)) dX12_at_37 (by decide) ?_
      obtain ⟨r6, I7, h8, K⟩ := K
      refine zi_callV (N := mX12_refuse) (av := [.int (-2)]) (st := []) (R1 := (some (.int r6), zh b I7 L)) dX12_at_39 okX12_refuse u_886 u_888 s_23 zc12 (rfl) (Nat.le_of_ble_eq_true rfl) arX12_refuse rfl (Nat.le_of_ble_eq_true rfl) (h8) hR ?_
      show zA G (d + 2) mX12_at 42 [some (.ref 56), some (.int x1), some (.int x2), some (.int x3)] [.int r6] (zh b I7 L) R
      subst K
      exact zi_ireturn dX12_at_42 rfl rfl
    · have K := K.2 (zb_1 c5)
      refine zi_aload_n dX12_at_22 rfl rfl ?_
      refine zg_getF (k := 0) (v := .ref 57) dX12_at_23 zc12 rfl (Nat.le_of_ble_eq_true rfl) (Nat.le_of_ble_eq_true rfl) u_806 rfl (rfl) ?_
      refine zi_iload_n dX12_at_26 rfl rfl ?_
      refine zi_iload_n dX12_at_27 rfl rfl ?_
      refine zi_iload_n dX12_at_28 rfl rfl ?_
      refine zi_callS (N := mX12_cellAt) (av := [.int x1, .int x2, .int x3]) (st := [.ref 57]) (R1 := (some (.int (zca x1 x2 x3)), zh b I L)) dX12_at_29 okX12_cellAt u_899 u_900 arX12_cellAt rfl (Nat.le_of_ble_eq_true rfl) (kX12_cellAt _ _ _) hR ?_
      show zA G (d + 2) mX12_at 32 [some (.ref 56), some (.int x1), some (.int x2), some (.int x3)] [.int (zca x1 x2 x3), .ref 57] (zh b I L) R
      have o9 := K.1
      have K := K.2
      refine zg_iaload dX12_at_32 (rfl) (Nat.le_of_ble_eq_true rfl) o9 ?_
      refine zi_goto (tgt := 42) dX12_at_33 (by decide) ?_
      subst K
      exact zi_ireturn dX12_at_42 rfl rfl
set_option maxRecDepth 100000 in
theorem tX12_joins_0 {G : zG} {d b : Nat} {I : Nat → Nat → Int32} {L : Nat → Nat → Int64} {R : zR} {x1 : Int32} {x2 : Int32} {x3 : Int32} {a : Nat} (ha : zsh a = (100, 463)) (la : a < 74)
    (K : (vp_in (101 + (I a 2)) 463 ∧ (vp_in (107 + (I a 2)) 463 ∧ (∀ I3 : Nat → Nat → Int32, I3 = (zup I a (zx (101 + (I a 2))) x1) → (vp_in (113 + (I a 2)) 463 ∧ (∀ I5 : Nat → Nat → Int32, I5 = (zup I3 a (zx (107 + (I a 2))) x2) → zA G d mX12_joins 32 [some (.ref a), some (.int x1), some (.int x2), some (.int x3), some (.int (I a 2)), some (.int 0)] [] (zh b (zup I5 a (zx (113 + (I a 2))) x3) L) R)))))) :
    zA G d mX12_joins 0 [some (.ref a), some (.int x1), some (.int x2), some (.int x3), none, none] [] (zh b I L) R := by
  refine zi_aload_n dX12_joins_0 rfl rfl ?_
  refine zi_iconst (v := 2) dX12_joins_1 (by decide) ?_
  refine zg_iaload dX12_joins_2 (ha) la (zvi (by decide)) ?_
  show zA G d mX12_joins 3 [some (.ref a), some (.int x1), some (.int x2), some (.int x3), none, none] [.int (I a 2)] (zh b I L) R
  refine zi_istore (ls' := [some (.ref a), some (.int x1), some (.int x2), some (.int x3), some (.int (I a 2)), none]) dX12_joins_3 (by decide) rfl ?_
  refine zi_aload_n dX12_joins_5 rfl rfl ?_
  refine zi_bipush (v := 101) dX12_joins_6 (by decide) ?_
  refine zi_iload dX12_joins_8 rfl ?_
  refine zi_iadd dX12_joins_10 ?_
  refine zi_iload_n dX12_joins_11 rfl rfl ?_
  have o1 := K.1
  have K := K.2
  refine zg_iastore dX12_joins_12 (ha) la o1 ?_
  refine zi_aload_n dX12_joins_13 rfl rfl ?_
  refine zi_bipush (v := 107) dX12_joins_14 (by decide) ?_
  refine zi_iload dX12_joins_16 rfl ?_
  refine zi_iadd dX12_joins_18 ?_
  refine zi_iload_n dX12_joins_19 rfl rfl ?_
  have o2 := K.1
  have K := K.2
  refine zi_name (fun I3 hI3 => ?_)
  have K := K I3 hI3
  refine zg_iastore dX12_joins_20 (ha) la o2 ?_
  refine zi_aload_n dX12_joins_21 rfl rfl ?_
  refine zi_bipush (v := 113) dX12_joins_22 (by decide) ?_
  refine zi_iload dX12_joins_24 rfl ?_
  refine zi_iadd dX12_joins_26 ?_
  refine zi_iload_n dX12_joins_27 rfl rfl ?_
  have o4 := K.1
  have K := K.2
  refine zi_name (fun I5 hI5 => ?_)
  have K := K I5 hI5
  refine zg_iastore dX12_joins_28 (ha) la o4 ?_
  refine zi_iconst (v := 0) dX12_joins_29 (by decide) ?_
  refine zi_istore (ls' := [some (.ref a), some (.int x1), some (.int x2), some (.int x3), some (.int (I a 2)), some (.int 0)]) dX12_joins_30 (by decide) rfl ?_
  exact K
set_option maxRecDepth 100000 in
theorem tX12_joins_32 {G : zG} {d b : Nat} {I : Nat → Nat → Int32} {L : Nat → Nat → Int64} {R : zR} {x1 : Int32} {x2 : Int32} {x3 : Int32} {x4 : Int32} {x5 : Int32} {a : Nat} (ha : zsh a = (100, 463)) (la : a < 74)
    (K : ((8 ≤ x5 → R = (some (.int x4), zh b (zup I a 2 (x4 + 1)) L)) ∧ (¬ 8 ≤ x5 → (vp_in ((119 + (8 * x4)) + x5) 463 ∧ zA G d mX12_joins 32 [some (.ref a), some (.int x1), some (.int x2), some (.int x3), some (.int x4), some (.int (x5 + 1))] [] (zh b (zup I a (zx ((119 + (8 * x4)) + x5)) 0) L) R)))) :
    zA G d mX12_joins 32 [some (.ref a), some (.int x1), some (.int x2), some (.int x3), some (.int x4), some (.int x5)] [] (zh b I L) R := by
  refine zi_iload dX12_joins_32 rfl ?_
  refine zi_bipush (v := 8) dX12_joins_34 (by decide) ?_
  refine zi_icmp_ge (tgt := 59) dX12_joins_36 (by decide) (fun c1 => ?_) (fun c1 => ?_)
  · have K := K.1 c1
    refine zi_aload_n dX12_joins_59 rfl rfl ?_
    refine zi_iconst (v := 2) dX12_joins_60 (by decide) ?_
    refine zi_iload dX12_joins_61 rfl ?_
    refine zi_iconst (v := 1) dX12_joins_63 (by decide) ?_
    refine zi_iadd dX12_joins_64 ?_
    refine zg_iastore dX12_joins_65 (ha) la (zvi (by decide)) ?_
    show zA G d mX12_joins 66 [some (.ref a), some (.int x1), some (.int x2), some (.int x3), some (.int x4), some (.int x5)] [] (zh b (zup I a 2 (x4 + 1)) L) R
    refine zi_iload dX12_joins_66 rfl ?_
    subst K
    exact zi_ireturn dX12_joins_68 rfl rfl
  · have K := K.2 c1
    refine zi_aload_n dX12_joins_39 rfl rfl ?_
    refine zi_bipush (v := 119) dX12_joins_40 (by decide) ?_
    refine zi_bipush (v := 8) dX12_joins_42 (by decide) ?_
    refine zi_iload dX12_joins_44 rfl ?_
    refine zi_imul dX12_joins_46 ?_
    refine zi_iadd dX12_joins_47 ?_
    refine zi_iload dX12_joins_48 rfl ?_
    refine zi_iadd dX12_joins_50 ?_
    refine zi_iconst (v := 0) dX12_joins_51 (by decide) ?_
    have o2 := K.1
    have K := K.2
    refine zg_iastore dX12_joins_52 (ha) la o2 ?_
    refine zi_iinc (v := x5 + 1) (ls' := [some (.ref a), some (.int x1), some (.int x2), some (.int x3), some (.int x4), some (.int (x5 + 1))]) dX12_joins_53 rfl (by decide) rfl rfl ?_
    refine zi_goto (tgt := 32) dX12_joins_56 (by decide) ?_
    exact K
set_option maxRecDepth 100000 in
theorem tX12_runner_0 {G : zG} {d b : Nat} {I : Nat → Nat → Int32} {L : Nat → Nat → Int64} {R : zR} {x1 : Int32} {x2 : Int32} {x3 : Int32} (hR : zR0 R)
    (K : (∃ (r1 : Bool), zCall (d + 1) mX12_isRunnerAt [.ref 57, .int x1, .int x2, .int x3] (zh b I L) (some (.int (zB r1)), zh b I L) ∧ ((r1 = true → ((¬ (I 57 2) = 6 → (∃ (r5 : Int32) (I6 : Nat → Nat → Int32), zCall (d + 1) mX12_joins [.ref 57, .int x1, .int x2, .int x3] (zh b I L) (some (.int r5), zh b I6 L) ∧ R = (some (.int r5), zh b I6 L))) ∧ ((I 57 2) = 6 → (∃ (r8 : Int32) (I9 : Nat → Nat → Int32), zCall (d + 1) mX12_refuse [.ref 56, .int (-4)] (zh b I L) (some (.int r8), zh b I9 L) ∧ R = (some (.int r8), zh b I9 L))))) ∧ (r1 = false → (∃ (r11 : Int32) (I12 : Nat → Nat → Int32), zCall (d + 1) mX12_refuse [.ref 56, .int (-2)] (zh b I L) (some (.int r11), zh b I12 L) ∧ R = (some (.int r11), zh b I12 L)))))) :
    zA G (d + 2) mX12_runner 0 [some (.ref 56), some (.int x1), some (.int x2), some (.int x3)] [] (zh b I L) R := by
  refine zi_aload_n dX12_runner_0 rfl rfl ?_
  refine zg_getF (k := 0) (v := .ref 57) dX12_runner_1 zc12 rfl (Nat.le_of_ble_eq_true rfl) (Nat.le_of_ble_eq_true rfl) u_806 rfl (rfl) ?_
  refine zi_iload_n dX12_runner_4 rfl rfl ?_
  refine zi_iload_n dX12_runner_5 rfl rfl ?_
  refine zi_iload_n dX12_runner_6 rfl rfl ?_
  obtain ⟨r1, h2, K⟩ := K
  refine zi_callS (N := mX12_isRunnerAt) (av := [.ref 57, .int x1, .int x2, .int x3]) (st := []) (R1 := (some (.int (zB r1)), zh b I L)) dX12_runner_7 okX12_isRunnerAt u_910 u_911 arX12_isRunnerAt rfl (Nat.le_of_ble_eq_true rfl) (h2) hR ?_
  show zA G (d + 2) mX12_runner 10 [some (.ref 56), some (.int x1), some (.int x2), some (.int x3)] [.int (zB r1)] (zh b I L) R
  refine zi_if_ne (tgt := 20) dX12_runner_10 (by decide) (fun c3 => ?_) (fun c3 => ?_)
  · have K := K.1 (zB_1 c3)
    refine zi_aload_n dX12_runner_20 rfl rfl ?_
    refine zg_getF (k := 0) (v := .ref 57) dX12_runner_21 zc12 rfl (Nat.le_of_ble_eq_true rfl) (Nat.le_of_ble_eq_true rfl) u_806 rfl (rfl) ?_
    refine zi_iconst (v := 2) dX12_runner_24 (by decide) ?_
    refine zg_iaload dX12_runner_25 (rfl) (Nat.le_of_ble_eq_true rfl) (zvi (by decide)) ?_
    show zA G (d + 2) mX12_runner 26 [some (.ref 56), some (.int x1), some (.int x2), some (.int x3)] [.int (I 57 2)] (zh b I L) R
    refine zi_bipush (v := 6) dX12_runner_26 (by decide) ?_
    refine zi_icmp_ne (tgt := 40) dX12_runner_28 (by decide) (fun c4 => ?_) (fun c4 => ?_)
    · have K := K.1 c4
      refine zi_aload_n dX12_runner_40 rfl rfl ?_
      refine zg_getF (k := 0) (v := .ref 57) dX12_runner_41 zc12 rfl (Nat.le_of_ble_eq_true rfl) (Nat.le_of_ble_eq_true rfl) u_806 rfl (rfl) ?_
      refine zi_iload_n dX12_runner_44 rfl rfl ?_
      refine zi_iload_n dX12_runner_45 rfl rfl ?_
      refine zi_iload_n dX12_runner_46 rfl rfl ?_
      obtain ⟨r5, I6, h7, K⟩ := K
      refine zi_callS (N := mX12_joins) (av := [.ref 57, .int x1, .int x2, .int x3]) (st := []) (R1 := (some (.int r5), zh b I6 L)) dX12_runner_47 okX12_joins u_915 u_916 arX12_joins rfl (Nat.le_of_ble_eq_true rfl) (h7) hR ?_
      show zA G (d + 2) mX12_runner 50 [some (.ref 56), some (.int x1), some (.int x2), some (.int x3)] [.int r5] (zh b I6 L) R
      subst K
      exact zi_ireturn dX12_runner_50 rfl rfl
    · have K := K.2 c4
      refine zi_aload_n dX12_runner_31 rfl rfl ?_
      refine zi_bipush (v := (-4)) dX12_runner_32 (by decide) ?_
      obtain ⟨r8, I9, h10, K⟩ := K
      refine zi_callV (N := mX12_refuse) (av := [.int (-4)]) (st := []) (R1 := (some (.int r8), zh b I9 L)) dX12_runner_34 okX12_refuse u_886 u_888 s_23 zc12 (rfl) (Nat.le_of_ble_eq_true rfl) arX12_refuse rfl (Nat.le_of_ble_eq_true rfl) (h10) hR ?_
      show zA G (d + 2) mX12_runner 37 [some (.ref 56), some (.int x1), some (.int x2), some (.int x3)] [.int r8] (zh b I9 L) R
      refine zi_goto (tgt := 50) dX12_runner_37 (by decide) ?_
      subst K
      exact zi_ireturn dX12_runner_50 rfl rfl
  · have K := K.2 (zB_0 c3)
    refine zi_aload_n dX12_runner_13 rfl rfl ?_
    refine zi_bipush (v := (-2)) dX12_runner_14 (by decide) ?_
    obtain ⟨r11, I12, h13, K⟩ := K
    refine zi_callV (N := mX12_refuse) (av := [.int (-2)]) (st := []) (R1 := (some (.int r11), zh b I12 L)) dX12_runner_16 okX12_refuse u_886 u_888 s_23 zc12 (rfl) (Nat.le_of_ble_eq_true rfl) arX12_refuse rfl (Nat.le_of_ble_eq_true rfl) (h13) hR ?_
    show zA G (d + 2) mX12_runner 19 [some (.ref 56), some (.int x1), some (.int x2), some (.int x3)] [.int r11] (zh b I12 L) R
    subst K
    exact zi_ireturn dX12_runner_19 rfl rfl
set_option maxRecDepth 100000 in
theorem tX12_line_0 {G : zG} {d b : Nat} {I : Nat → Nat → Int32} {L : Nat → Nat → Int64} {R : zR} {x1 : Int32} {x2 : Int32} {x3 : Int32} (hR : zR0 R)
    (K : ((¬ (0 ≤ x1.toInt64 ∧ x1.toInt64 ≤ (I 57 2 - 1).toInt64) → (∃ (r2 : Int32) (I3 : Nat → Nat → Int32), zCall (d + 1) mX12_refuse [.ref 56, .int (-2)] (zh b I L) (some (.int r2), zh b I3 L) ∧ R = (some (.int r2), zh b I3 L))) ∧ ((0 ≤ x1.toInt64 ∧ x1.toInt64 ≤ (I 57 2 - 1).toInt64) → ((¬ (0 ≤ x2.toInt64 ∧ x2.toInt64 ≤ (I 57 0 - 1).toInt64) → (∃ (r6 : Int32) (I7 : Nat → Nat → Int32), zCall (d + 1) mX12_refuse [.ref 56, .int (-2)] (zh b I L) (some (.int r6), zh b I7 L) ∧ R = (some (.int r6), zh b I7 L))) ∧ ((0 ≤ x2.toInt64 ∧ x2.toInt64 ≤ (I 57 0 - 1).toInt64) → (((0 ≤ x3.toInt64 ∧ x3.toInt64 ≤ 2) → (vp_in ((119 + (8 * x1)) + x2) 463 ∧ (vp_in ((119 + (8 * x1)) + x2) 463 ∧ R = (some (.int (I 57 (zx ((119 + (8 * x1)) + x2)))), zh b (zup I 57 (zx ((119 + (8 * x1)) + x2)) x3) L)))) ∧ (¬ (0 ≤ x3.toInt64 ∧ x3.toInt64 ≤ 2) → (∃ (r12 : Int32) (I13 : Nat → Nat → Int32), zCall (d + 1) mX12_refuse [.ref 56, .int (-2)] (zh b I L) (some (.int r12), zh b I13 L) ∧ R = (some (.int r12), zh b I13 L))))))))) :
    zA G (d + 2) mX12_line 0 [some (.ref 56), some (.int x1), some (.int x2), some (.int x3), none] [] (zh b I L) R := by
  refine zi_aload_n dX12_line_0 rfl rfl ?_
  refine zi_iload_n dX12_line_1 rfl rfl ?_
  refine zi_callV (N := mX12_isRunner) (av := [.int x1]) (st := []) (R1 := (some (.int (zb (0 ≤ x1.toInt64 ∧ x1.toInt64 ≤ (I 57 2 - 1).toInt64))), zh b I L)) dX12_line_2 okX12_isRunner u_922 u_924 s_24 zc12 (rfl) (Nat.le_of_ble_eq_true rfl) arX12_isRunner rfl (Nat.le_of_ble_eq_true rfl) (kX12_isRunner _) hR ?_
  show zA G (d + 2) mX12_line 5 [some (.ref 56), some (.int x1), some (.int x2), some (.int x3), none] [.int (zb (0 ≤ x1.toInt64 ∧ x1.toInt64 ≤ (I 57 2 - 1).toInt64))] (zh b I L) R
  refine zi_if_eq (tgt := 28) dX12_line_5 (by decide) (fun c1 => ?_) (fun c1 => ?_)
  · have K := K.1 (zb_0 c1)
    refine zi_aload_n dX12_line_28 rfl rfl ?_
    refine zi_bipush (v := (-2)) dX12_line_29 (by decide) ?_
    obtain ⟨r2, I3, h4, K⟩ := K
    refine zi_callV (N := mX12_refuse) (av := [.int (-2)]) (st := []) (R1 := (some (.int r2), zh b I3 L)) dX12_line_31 okX12_refuse u_886 u_888 s_23 zc12 (rfl) (Nat.le_of_ble_eq_true rfl) arX12_refuse rfl (Nat.le_of_ble_eq_true rfl) (h4) hR ?_
    show zA G (d + 2) mX12_line 34 [some (.ref 56), some (.int x1), some (.int x2), some (.int x3), none] [.int r2] (zh b I3 L) R
    subst K
    exact zi_ireturn dX12_line_34 rfl rfl
  · have K := K.2 (zb_1 c1)
    refine zi_aload_n dX12_line_8 rfl rfl ?_
    refine zi_iload_n dX12_line_9 rfl rfl ?_
    refine zi_callV (N := mX12_isRow) (av := [.int x2]) (st := []) (R1 := (some (.int (zb (0 ≤ x2.toInt64 ∧ x2.toInt64 ≤ (I 57 0 - 1).toInt64))), zh b I L)) dX12_line_10 okX12_isRow u_926 u_928 s_25 zc12 (rfl) (Nat.le_of_ble_eq_true rfl) arX12_isRow rfl (Nat.le_of_ble_eq_true rfl) (kX12_isRow _) hR ?_
    show zA G (d + 2) mX12_line 13 [some (.ref 56), some (.int x1), some (.int x2), some (.int x3), none] [.int (zb (0 ≤ x2.toInt64 ∧ x2.toInt64 ≤ (I 57 0 - 1).toInt64))] (zh b I L) R
    refine zi_if_eq (tgt := 28) dX12_line_13 (by decide) (fun c5 => ?_) (fun c5 => ?_)
    · have K := K.1 (zb_0 c5)
      refine zi_aload_n dX12_line_28 rfl rfl ?_
      refine zi_bipush (v := (-2)) dX12_line_29 (by decide) ?_
      obtain ⟨r6, I7, h8, K⟩ := K
      refine zi_callV (N := mX12_refuse) (av := [.int (-2)]) (st := []) (R1 := (some (.int r6), zh b I7 L)) dX12_line_31 okX12_refuse u_886 u_888 s_23 zc12 (rfl) (Nat.le_of_ble_eq_true rfl) arX12_refuse rfl (Nat.le_of_ble_eq_true rfl) (h8) hR ?_
      show zA G (d + 2) mX12_line 34 [some (.ref 56), some (.int x1), some (.int x2), some (.int x3), none] [.int r6] (zh b I7 L) R
      subst K
      exact zi_ireturn dX12_line_34 rfl rfl
    · have K := K.2 (zb_1 c5)
      refine zi_iload_n dX12_line_16 rfl rfl ?_
      refine zi_i2l dX12_line_17 ?_
      refine zi_lconst (v := 0) dX12_line_18 (by decide) ?_
      refine zi_ldc2 dX12_line_19 u_930 ?_
      refine zi_callS (N := mX12_in) (av := [.long x3.toInt64, .long 0, .long 2]) (st := []) (R1 := (some (.int (zb (0 ≤ x3.toInt64 ∧ x3.toInt64 ≤ 2))), zh b I L)) dX12_line_22 okX12_in u_803 u_804 arX12_in rfl (Nat.le_of_ble_eq_true rfl) (kX12_in _ _ _) hR ?_
      show zA G (d + 2) mX12_line 25 [some (.ref 56), some (.int x1), some (.int x2), some (.int x3), none] [.int (zb (0 ≤ x3.toInt64 ∧ x3.toInt64 ≤ 2))] (zh b I L) R
      refine zi_if_ne (tgt := 35) dX12_line_25 (by decide) (fun c9 => ?_) (fun c9 => ?_)
      · have K := K.1 (zb_1 c9)
        refine zi_aload_n dX12_line_35 rfl rfl ?_
        refine zg_getF (k := 0) (v := .ref 57) dX12_line_36 zc12 rfl (Nat.le_of_ble_eq_true rfl) (Nat.le_of_ble_eq_true rfl) u_806 rfl (rfl) ?_
        refine zi_bipush (v := 119) dX12_line_39 (by decide) ?_
        refine zi_bipush (v := 8) dX12_line_41 (by decide) ?_
        refine zi_iload_n dX12_line_43 rfl rfl ?_
        refine zi_imul dX12_line_44 ?_
        refine zi_iadd dX12_line_45 ?_
        refine zi_iload_n dX12_line_46 rfl rfl ?_
        refine zi_iadd dX12_line_47 ?_
        have o10 := K.1
        have K := K.2
        refine zg_iaload dX12_line_48 (rfl) (Nat.le_of_ble_eq_true rfl) o10 ?_
        refine zi_istore (ls' := [some (.ref 56), some (.int x1), some (.int x2), some (.int x3), some (.int (I 57 (zx ((119 + (8 * x1)) + x2))))]) dX12_line_49 (by decide) rfl ?_
        refine zi_aload_n dX12_line_51 rfl rfl ?_
        refine zg_getF (k := 0) (v := .ref 57) dX12_line_52 zc12 rfl (Nat.le_of_ble_eq_true rfl) (Nat.le_of_ble_eq_true rfl) u_806 rfl (rfl) ?_
        refine zi_bipush (v := 119) dX12_line_55 (by decide) ?_
        refine zi_bipush (v := 8) dX12_line_57 (by decide) ?_
        refine zi_iload_n dX12_line_59 rfl rfl ?_
        refine zi_imul dX12_line_60 ?_
        refine zi_iadd dX12_line_61 ?_
        refine zi_iload_n dX12_line_62 rfl rfl ?_
        refine zi_iadd dX12_line_63 ?_
        refine zi_iload_n dX12_line_64 rfl rfl ?_
        have o11 := K.1
        have K := K.2
        refine zg_iastore dX12_line_65 (rfl) (Nat.le_of_ble_eq_true rfl) o11 ?_
        refine zi_iload dX12_line_66 rfl ?_
        subst K
        exact zi_ireturn dX12_line_68 rfl rfl
      · have K := K.2 (zb_0 c9)
        refine zi_aload_n dX12_line_28 rfl rfl ?_
        refine zi_bipush (v := (-2)) dX12_line_29 (by decide) ?_
        obtain ⟨r12, I13, h14, K⟩ := K
        refine zi_callV (N := mX12_refuse) (av := [.int (-2)]) (st := []) (R1 := (some (.int r12), zh b I13 L)) dX12_line_31 okX12_refuse u_886 u_888 s_23 zc12 (rfl) (Nat.le_of_ble_eq_true rfl) arX12_refuse rfl (Nat.le_of_ble_eq_true rfl) (h14) hR ?_
        show zA G (d + 2) mX12_line 34 [some (.ref 56), some (.int x1), some (.int x2), some (.int x3), none] [.int r12] (zh b I13 L) R
        subst K
        exact zi_ireturn dX12_line_34 rfl rfl
set_option maxRecDepth 100000 in
theorem tX12_type_0 {G : zG} {d b : Nat} {I : Nat → Nat → Int32} {L : Nat → Nat → Int64} {R : zR} {x1 : Int64} {x3 : Int32} (hR : zR0 R)
    (K : (((1 ≤ x3.toInt64 ∧ x3.toInt64 ≤ 8) → ((((I 56 5) + x3) ≤ 250 → zA G (d + 1) mX12_type 43 [some (.ref 56), some (.long x1), none, some (.int x3), some (.int (x3 - 1))] [] (zh b I L) R) ∧ (¬ ((I 56 5) + x3) ≤ 250 → (∃ (r3 : Int32) (I4 : Nat → Nat → Int32), zCall d mX12_refuse [.ref 56, .int (-4)] (zh b I L) (some (.int r3), zh b I4 L) ∧ R = (some (.int r3), zh b I4 L))))) ∧ (¬ (1 ≤ x3.toInt64 ∧ x3.toInt64 ≤ 8) → (∃ (r6 : Int32) (I7 : Nat → Nat → Int32), zCall d mX12_refuse [.ref 56, .int (-2)] (zh b I L) (some (.int r6), zh b I7 L) ∧ R = (some (.int r6), zh b I7 L))))) :
    zA G (d + 1) mX12_type 0 [some (.ref 56), some (.long x1), none, some (.int x3), none] [] (zh b I L) R := by
  refine zi_iload_n dX12_type_0 rfl rfl ?_
  refine zi_i2l dX12_type_1 ?_
  refine zi_lconst (v := 1) dX12_type_2 (by decide) ?_
  refine zi_ldc2 dX12_type_3 u_884 ?_
  refine zi_callS (N := mX12_in) (av := [.long x3.toInt64, .long 1, .long 8]) (st := []) (R1 := (some (.int (zb (1 ≤ x3.toInt64 ∧ x3.toInt64 ≤ 8))), zh b I L)) dX12_type_6 okX12_in u_803 u_804 arX12_in rfl (Nat.le_of_ble_eq_true rfl) (kX12_in _ _ _) hR ?_
  show zA G (d + 1) mX12_type 9 [some (.ref 56), some (.long x1), none, some (.int x3), none] [.int (zb (1 ≤ x3.toInt64 ∧ x3.toInt64 ≤ 8))] (zh b I L) R
  refine zi_if_ne (tgt := 19) dX12_type_9 (by decide) (fun c1 => ?_) (fun c1 => ?_)
  · have K := K.1 (zb_1 c1)
    refine zi_aload_n dX12_type_19 rfl rfl ?_
    refine zg_getI (k := 5) dX12_type_20 zc12 rfl (Nat.le_of_ble_eq_true rfl) (Nat.le_of_ble_eq_true rfl) u_811 rfl ?_
    refine zi_iload_n dX12_type_23 rfl rfl ?_
    refine zi_iadd dX12_type_24 ?_
    refine zi_sipush (v := 250) dX12_type_25 (by decide) ?_
    refine zi_icmp_le (tgt := 38) dX12_type_28 (by decide) (fun c2 => ?_) (fun c2 => ?_)
    · have K := K.1 c2
      refine zi_iload_n dX12_type_38 rfl rfl ?_
      refine zi_iconst (v := 1) dX12_type_39 (by decide) ?_
      refine zi_isub dX12_type_40 ?_
      refine zi_istore (ls' := [some (.ref 56), some (.long x1), none, some (.int x3), some (.int (x3 - 1))]) dX12_type_41 (by decide) rfl ?_
      exact K
    · have K := K.2 c2
      refine zi_aload_n dX12_type_31 rfl rfl ?_
      refine zi_bipush (v := (-4)) dX12_type_32 (by decide) ?_
      obtain ⟨r3, I4, h5, K⟩ := K
      refine zi_callV (N := mX12_refuse) (av := [.int (-4)]) (st := []) (R1 := (some (.int r3), zh b I4 L)) dX12_type_34 okX12_refuse u_886 u_888 s_23 zc12 (rfl) (Nat.le_of_ble_eq_true rfl) arX12_refuse rfl (Nat.le_of_ble_eq_true rfl) (h5) hR ?_
      show zA G (d + 1) mX12_type 37 [some (.ref 56), some (.long x1), none, some (.int x3), none] [.int r3] (zh b I4 L) R
      subst K
      exact zi_ireturn dX12_type_37 rfl rfl
  · have K := K.2 (zb_0 c1)
    refine zi_aload_n dX12_type_12 rfl rfl ?_
    refine zi_bipush (v := (-2)) dX12_type_13 (by decide) ?_
    obtain ⟨r6, I7, h8, K⟩ := K
    refine zi_callV (N := mX12_refuse) (av := [.int (-2)]) (st := []) (R1 := (some (.int r6), zh b I7 L)) dX12_type_15 okX12_refuse u_886 u_888 s_23 zc12 (rfl) (Nat.le_of_ble_eq_true rfl) arX12_refuse rfl (Nat.le_of_ble_eq_true rfl) (h8) hR ?_
    show zA G (d + 1) mX12_type 18 [some (.ref 56), some (.long x1), none, some (.int x3), none] [.int r6] (zh b I7 L) R
    subst K
    exact zi_ireturn dX12_type_18 rfl rfl
set_option maxRecDepth 100000 in
theorem tX12_type_43 {G : zG} {d b : Nat} {I : Nat → Nat → Int32} {L : Nat → Nat → Int64} {R : zR} {x1 : Int64} {x3 : Int32} {x4 : Int32}
    (K : ((x4 < 0 → R = (some (.int (I 56 5)), zh b I L)) ∧ (¬ x4 < 0 → (vp_in (I 56 5) 250 ∧ (∀ I3 : Nat → Nat → Int32, I3 = (zup I 61 (zx (I 56 5)) (((x1 >>> ((8 * x4).toInt64 &&& 63)) &&& 255).toInt32)) → zA G (d + 1) mX12_type 43 [some (.ref 56), some (.long x1), none, some (.int x3), some (.int (x4 + (-1)))] [] (zh b (zup I3 56 5 (((zup I 61 (zx (I 56 5)) (((x1 >>> ((8 * x4).toInt64 &&& 63)) &&& 255).toInt32)) 56 5) + 1)) L) R))))) :
    zA G (d + 1) mX12_type 43 [some (.ref 56), some (.long x1), none, some (.int x3), some (.int x4)] [] (zh b I L) R := by
  refine zi_iload dX12_type_43 rfl ?_
  refine zi_if_lt (tgt := 85) dX12_type_45 (by decide) (fun c1 => ?_) (fun c1 => ?_)
  · have K := K.1 c1
    refine zi_aload_n dX12_type_85 rfl rfl ?_
    refine zg_getI (k := 5) dX12_type_86 zc12 rfl (Nat.le_of_ble_eq_true rfl) (Nat.le_of_ble_eq_true rfl) u_811 rfl ?_
    subst K
    exact zi_ireturn dX12_type_89 rfl rfl
  · have K := K.2 c1
    refine zi_aload_n dX12_type_48 rfl rfl ?_
    refine zg_getF (k := 4) (v := .ref 61) dX12_type_49 zc12 rfl (Nat.le_of_ble_eq_true rfl) (Nat.le_of_ble_eq_true rfl) u_810 rfl (rfl) ?_
    refine zi_aload_n dX12_type_52 rfl rfl ?_
    refine zg_getI (k := 5) dX12_type_53 zc12 rfl (Nat.le_of_ble_eq_true rfl) (Nat.le_of_ble_eq_true rfl) u_811 rfl ?_
    refine zi_lload_n dX12_type_56 rfl rfl ?_
    refine zi_bipush (v := 8) dX12_type_57 (by decide) ?_
    refine zi_iload dX12_type_59 rfl ?_
    refine zi_imul dX12_type_61 ?_
    refine zi_lshr dX12_type_62 ?_
    refine zi_ldc2 dX12_type_63 u_935 ?_
    refine zi_land dX12_type_66 ?_
    refine zi_l2i dX12_type_67 ?_
    have o2 := K.1
    have K := K.2
    refine zg_iastore dX12_type_68 (rfl) (Nat.le_of_ble_eq_true rfl) o2 ?_
    refine zi_aload_n dX12_type_69 rfl rfl ?_
    refine zi_dup dX12_type_70 rfl ?_
    refine zg_getI (k := 5) dX12_type_71 zc12 rfl (Nat.le_of_ble_eq_true rfl) (Nat.le_of_ble_eq_true rfl) u_811 rfl ?_
    refine zi_iconst (v := 1) dX12_type_74 (by decide) ?_
    refine zi_iadd dX12_type_75 ?_
    refine zi_name (fun I3 hI3 => ?_)
    have K := K I3 hI3
    refine zg_putI (k := 5) dX12_type_76 zc12 rfl (Nat.le_of_ble_eq_true rfl) (Nat.le_of_ble_eq_true rfl) u_811 rfl rfl ?_
    refine zi_iinc (v := x4 + (-1)) (ls' := [some (.ref 56), some (.long x1), none, some (.int x3), some (.int (x4 + (-1)))]) dX12_type_79 rfl (by decide) rfl rfl ?_
    refine zi_goto (tgt := 43) dX12_type_82 (by decide) ?_
    exact K
set_option maxRecDepth 100000 in
theorem tX12_clear_0 {G : zG} {d b : Nat} {I : Nat → Nat → Int32} {L : Nat → Nat → Int64} {R : zR} 
    (K : R = (some (.int (I 56 5)), zh b (zup I 56 5 0) L)) :
    zA G d mX12_clear 0 [some (.ref 56), none] [] (zh b I L) R := by
  refine zi_aload_n dX12_clear_0 rfl rfl ?_
  refine zg_getI (k := 5) dX12_clear_1 zc12 rfl (Nat.le_of_ble_eq_true rfl) (Nat.le_of_ble_eq_true rfl) u_811 rfl ?_
  refine zi_istore_n (ls' := [some (.ref 56), some (.int (I 56 5))]) dX12_clear_4 rfl (by decide) rfl ?_
  refine zi_aload_n dX12_clear_5 rfl rfl ?_
  refine zi_iconst (v := 0) dX12_clear_6 (by decide) ?_
  refine zg_putI (k := 5) dX12_clear_7 zc12 rfl (Nat.le_of_ble_eq_true rfl) (Nat.le_of_ble_eq_true rfl) u_811 rfl rfl ?_
  refine zi_iload_n dX12_clear_10 rfl rfl ?_
  subst K
  exact zi_ireturn dX12_clear_11 rfl rfl
set_option maxRecDepth 100000 in
theorem tX12_next_0 {G : zG} {d b : Nat} {I : Nat → Nat → Int32} {L : Nat → Nat → Int64} {R : zR}  (hR : zR0 R)
    (K : (((I 56 5) ≤ (I 56 9) → ((((zup I 56 10 (I 56 9)) 56 5) ≤ ((zup I 56 10 (I 56 9)) 56 9) → ((0 ≤ ((-1) : Int32) → ((¬ (96 < (-1) ∧ (-1) < 123) → ((¬ (47 < (-1) ∧ (-1) < 58) → ((¬ ((-1) : Int32) = 59 → (∀ I7 : Nat → Nat → Int32, I7 = (zup I 56 10 (I 56 9)) → ((¬ ((zup I7 56 11 4) 56 11) = 3 → (∀ I9 : Nat → Nat → Int32, I9 = (zup I7 56 11 4) → zA G (d + 1) mX12_next 143 [some (.ref 56), some (.int (-1))] [] (zh b (zup I9 56 9 (((zup I7 56 11 4) 56 9) + 0)) (zupL L 56 12 0)) R)) ∧ (((zup I7 56 11 4) 56 11) = 3 → (∀ I10 : Nat → Nat → Int32, I10 = (zup I7 56 11 4) → zA G (d + 1) mX12_next 143 [some (.ref 56), some (.int (-1))] [] (zh b (zup I10 56 9 (((zup I7 56 11 4) 56 9) + 1)) (zupL L 56 12 0)) R))))) ∧ (((-1) : Int32) = 59 → (∀ I11 : Nat → Nat → Int32, I11 = (zup I 56 10 (I 56 9)) → ((¬ ((zup I11 56 11 3) 56 11) = 3 → (∀ I13 : Nat → Nat → Int32, I13 = (zup I11 56 11 3) → zA G (d + 1) mX12_next 143 [some (.ref 56), some (.int (-1))] [] (zh b (zup I13 56 9 (((zup I11 56 11 3) 56 9) + 0)) (zupL L 56 12 0)) R)) ∧ (((zup I11 56 11 3) 56 11) = 3 → (∀ I14 : Nat → Nat → Int32, I14 = (zup I11 56 11 3) → zA G (d + 1) mX12_next 143 [some (.ref 56), some (.int (-1))] [] (zh b (zup I14 56 9 (((zup I11 56 11 3) 56 9) + 1)) (zupL L 56 12 0)) R))))))) ∧ ((47 < (-1) ∧ (-1) < 58) → (∀ I15 : Nat → Nat → Int32, I15 = (zup I 56 10 (I 56 9)) → ((¬ ((zup I15 56 11 2) 56 11) = 3 → (∀ I17 : Nat → Nat → Int32, I17 = (zup I15 56 11 2) → zA G (d + 1) mX12_next 143 [some (.ref 56), some (.int (-1))] [] (zh b (zup I17 56 9 (((zup I15 56 11 2) 56 9) + 0)) (zupL L 56 12 0)) R)) ∧ (((zup I15 56 11 2) 56 11) = 3 → (∀ I18 : Nat → Nat → Int32, I18 = (zup I15 56 11 2) → zA G (d + 1) mX12_next 143 [some (.ref 56), some (.int (-1))] [] (zh b (zup I18 56 9 (((zup I15 56 11 2) 56 9) + 1)) (zupL L 56 12 0)) R))))))) ∧ ((96 < (-1) ∧ (-1) < 123) → (∀ I19 : Nat → Nat → Int32, I19 = (zup I 56 10 (I 56 9)) → ((¬ ((zup I19 56 11 1) 56 11) = 3 → (∀ I21 : Nat → Nat → Int32, I21 = (zup I19 56 11 1) → zA G (d + 1) mX12_next 143 [some (.ref 56), some (.int (-1))] [] (zh b (zup I21 56 9 (((zup I19 56 11 1) 56 9) + 0)) (zupL L 56 12 0)) R)) ∧ (((zup I19 56 11 1) 56 11) = 3 → (∀ I22 : Nat → Nat → Int32, I22 = (zup I19 56 11 1) → zA G (d + 1) mX12_next 143 [some (.ref 56), some (.int (-1))] [] (zh b (zup I22 56 9 (((zup I19 56 11 1) 56 9) + 1)) (zupL L 56 12 0)) R))))))) ∧ (¬ 0 ≤ ((-1) : Int32) → (∀ I23 : Nat → Nat → Int32, I23 = (zup I 56 10 (I 56 9)) → ((¬ ((zup I23 56 11 0) 56 11) = 3 → (∀ I25 : Nat → Nat → Int32, I25 = (zup I23 56 11 0) → zA G (d + 1) mX12_next 143 [some (.ref 56), some (.int (-1))] [] (zh b (zup I25 56 9 (((zup I23 56 11 0) 56 9) + 0)) (zupL L 56 12 0)) R)) ∧ (((zup I23 56 11 0) 56 11) = 3 → (∀ I26 : Nat → Nat → Int32, I26 = (zup I23 56 11 0) → zA G (d + 1) mX12_next 143 [some (.ref 56), some (.int (-1))] [] (zh b (zup I26 56 9 (((zup I23 56 11 0) 56 9) + 1)) (zupL L 56 12 0)) R))))))) ∧ (¬ ((zup I 56 10 (I 56 9)) 56 5) ≤ ((zup I 56 10 (I 56 9)) 56 9) → (vp_in ((zup I 56 10 (I 56 9)) 56 9) 250 ∧ ((0 ≤ ((zup I 56 10 (I 56 9)) 61 (zx ((zup I 56 10 (I 56 9)) 56 9))) → ((¬ (96 < ((zup I 56 10 (I 56 9)) 61 (zx ((zup I 56 10 (I 56 9)) 56 9))) ∧ ((zup I 56 10 (I 56 9)) 61 (zx ((zup I 56 10 (I 56 9)) 56 9))) < 123) → ((¬ (47 < ((zup I 56 10 (I 56 9)) 61 (zx ((zup I 56 10 (I 56 9)) 56 9))) ∧ ((zup I 56 10 (I 56 9)) 61 (zx ((zup I 56 10 (I 56 9)) 56 9))) < 58) → ((¬ ((zup I 56 10 (I 56 9)) 61 (zx ((zup I 56 10 (I 56 9)) 56 9))) = 59 → (∀ I32 : Nat → Nat → Int32, I32 = (zup I 56 10 (I 56 9)) → ((¬ ((zup I32 56 11 4) 56 11) = 3 → (∀ I34 : Nat → Nat → Int32, I34 = (zup I32 56 11 4) → zA G (d + 1) mX12_next 143 [some (.ref 56), some (.int ((zup I 56 10 (I 56 9)) 61 (zx ((zup I 56 10 (I 56 9)) 56 9))))] [] (zh b (zup I34 56 9 (((zup I32 56 11 4) 56 9) + 0)) (zupL L 56 12 0)) R)) ∧ (((zup I32 56 11 4) 56 11) = 3 → (∀ I35 : Nat → Nat → Int32, I35 = (zup I32 56 11 4) → zA G (d + 1) mX12_next 143 [some (.ref 56), some (.int ((zup I 56 10 (I 56 9)) 61 (zx ((zup I 56 10 (I 56 9)) 56 9))))] [] (zh b (zup I35 56 9 (((zup I32 56 11 4) 56 9) + 1)) (zupL L 56 12 0)) R))))) ∧ (((zup I 56 10 (I 56 9)) 61 (zx ((zup I 56 10 (I 56 9)) 56 9))) = 59 → (∀ I36 : Nat → Nat → Int32, I36 = (zup I 56 10 (I 56 9)) → ((¬ ((zup I36 56 11 3) 56 11) = 3 → (∀ I38 : Nat → Nat → Int32, I38 = (zup I36 56 11 3) → zA G (d + 1) mX12_next 143 [some (.ref 56), some (.int ((zup I 56 10 (I 56 9)) 61 (zx ((zup I 56 10 (I 56 9)) 56 9))))] [] (zh b (zup I38 56 9 (((zup I36 56 11 3) 56 9) + 0)) (zupL L 56 12 0)) R)) ∧ (((zup I36 56 11 3) 56 11) = 3 → (∀ I39 : Nat → Nat → Int32, I39 = (zup I36 56 11 3) → zA G (d + 1) mX12_next 143 [some (.ref 56), some (.int ((zup I 56 10 (I 56 9)) 61 (zx ((zup I 56 10 (I 56 9)) 56 9))))] [] (zh b (zup I39 56 9 (((zup I36 56 11 3) 56 9) + 1)) (zupL L 56 12 0)) R))))))) ∧ ((47 < ((zup I 56 10 (I 56 9)) 61 (zx ((zup I 56 10 (I 56 9)) 56 9))) ∧ ((zup I 56 10 (I 56 9)) 61 (zx ((zup I 56 10 (I 56 9)) 56 9))) < 58) → (∀ I40 : Nat → Nat → Int32, I40 = (zup I 56 10 (I 56 9)) → ((¬ ((zup I40 56 11 2) 56 11) = 3 → (∀ I42 : Nat → Nat → Int32, I42 = (zup I40 56 11 2) → zA G (d + 1) mX12_next 143 [some (.ref 56), some (.int ((zup I 56 10 (I 56 9)) 61 (zx ((zup I 56 10 (I 56 9)) 56 9))))] [] (zh b (zup I42 56 9 (((zup I40 56 11 2) 56 9) + 0)) (zupL L 56 12 0)) R)) ∧ (((zup I40 56 11 2) 56 11) = 3 → (∀ I43 : Nat → Nat → Int32, I43 = (zup I40 56 11 2) → zA G (d + 1) mX12_next 143 [some (.ref 56), some (.int ((zup I 56 10 (I 56 9)) 61 (zx ((zup I 56 10 (I 56 9)) 56 9))))] [] (zh b (zup I43 56 9 (((zup I40 56 11 2) 56 9) + 1)) (zupL L 56 12 0)) R))))))) ∧ ((96 < ((zup I 56 10 (I 56 9)) 61 (zx ((zup I 56 10 (I 56 9)) 56 9))) ∧ ((zup I 56 10 (I 56 9)) 61 (zx ((zup I 56 10 (I 56 9)) 56 9))) < 123) → (∀ I44 : Nat → Nat → Int32, I44 = (zup I 56 10 (I 56 9)) → ((¬ ((zup I44 56 11 1) 56 11) = 3 → (∀ I46 : Nat → Nat → Int32, I46 = (zup I44 56 11 1) → zA G (d + 1) mX12_next 143 [some (.ref 56), some (.int ((zup I 56 10 (I 56 9)) 61 (zx ((zup I 56 10 (I 56 9)) 56 9))))] [] (zh b (zup I46 56 9 (((zup I44 56 11 1) 56 9) + 0)) (zupL L 56 12 0)) R)) ∧ (((zup I44 56 11 1) 56 11) = 3 → (∀ I47 : Nat → Nat → Int32, I47 = (zup I44 56 11 1) → zA G (d + 1) mX12_next 143 [some (.ref 56), some (.int ((zup I 56 10 (I 56 9)) 61 (zx ((zup I 56 10 (I 56 9)) 56 9))))] [] (zh b (zup I47 56 9 (((zup I44 56 11 1) 56 9) + 1)) (zupL L 56 12 0)) R))))))) ∧ (¬ 0 ≤ ((zup I 56 10 (I 56 9)) 61 (zx ((zup I 56 10 (I 56 9)) 56 9))) → (∀ I48 : Nat → Nat → Int32, I48 = (zup I 56 10 (I 56 9)) → ((¬ ((zup I48 56 11 0) 56 11) = 3 → (∀ I50 : Nat → Nat → Int32, I50 = (zup I48 56 11 0) → zA G (d + 1) mX12_next 143 [some (.ref 56), some (.int ((zup I 56 10 (I 56 9)) 61 (zx ((zup I 56 10 (I 56 9)) 56 9))))] [] (zh b (zup I50 56 9 (((zup I48 56 11 0) 56 9) + 0)) (zupL L 56 12 0)) R)) ∧ (((zup I48 56 11 0) 56 11) = 3 → (∀ I51 : Nat → Nat → Int32, I51 = (zup I48 56 11 0) → zA G (d + 1) mX12_next 143 [some (.ref 56), some (.int ((zup I 56 10 (I 56 9)) 61 (zx ((zup I 56 10 (I 56 9)) 56 9))))] [] (zh b (zup I51 56 9 (((zup I48 56 11 0) 56 9) + 1)) (zupL L 56 12 0)) R)))))))))) ∧ (¬ (I 56 5) ≤ (I 56 9) → (vp_in (I 56 9) 250 ∧ ((¬ (I 61 (zx (I 56 9))) = 32 → ((((zup I 56 10 (I 56 9)) 56 5) ≤ ((zup I 56 10 (I 56 9)) 56 9) → ((0 ≤ ((-1) : Int32) → ((¬ (96 < (-1) ∧ (-1) < 123) → ((¬ (47 < (-1) ∧ (-1) < 58) → ((¬ ((-1) : Int32) = 59 → (∀ I59 : Nat → Nat → Int32, I59 = (zup I 56 10 (I 56 9)) → ((¬ ((zup I59 56 11 4) 56 11) = 3 → (∀ I61 : Nat → Nat → Int32, I61 = (zup I59 56 11 4) → zA G (d + 1) mX12_next 143 [some (.ref 56), some (.int (-1))] [] (zh b (zup I61 56 9 (((zup I59 56 11 4) 56 9) + 0)) (zupL L 56 12 0)) R)) ∧ (((zup I59 56 11 4) 56 11) = 3 → (∀ I62 : Nat → Nat → Int32, I62 = (zup I59 56 11 4) → zA G (d + 1) mX12_next 143 [some (.ref 56), some (.int (-1))] [] (zh b (zup I62 56 9 (((zup I59 56 11 4) 56 9) + 1)) (zupL L 56 12 0)) R))))) ∧ (((-1) : Int32) = 59 → (∀ I63 : Nat → Nat → Int32, I63 = (zup I 56 10 (I 56 9)) → ((¬ ((zup I63 56 11 3) 56 11) = 3 → (∀ I65 : Nat → Nat → Int32, I65 = (zup I63 56 11 3) → zA G (d + 1) mX12_next 143 [some (.ref 56), some (.int (-1))] [] (zh b (zup I65 56 9 (((zup I63 56 11 3) 56 9) + 0)) (zupL L 56 12 0)) R)) ∧ (((zup I63 56 11 3) 56 11) = 3 → (∀ I66 : Nat → Nat → Int32, I66 = (zup I63 56 11 3) → zA G (d + 1) mX12_next 143 [some (.ref 56), some (.int (-1))] [] (zh b (zup I66 56 9 (((zup I63 56 11 3) 56 9) + 1)) (zupL L 56 12 0)) R))))))) ∧ ((47 < (-1) ∧ (-1) < 58) → (∀ I67 : Nat → Nat → Int32, I67 = (zup I 56 10 (I 56 9)) → ((¬ ((zup I67 56 11 2) 56 11) = 3 → (∀ I69 : Nat → Nat → Int32, I69 = (zup I67 56 11 2) → zA G (d + 1) mX12_next 143 [some (.ref 56), some (.int (-1))] [] (zh b (zup I69 56 9 (((zup I67 56 11 2) 56 9) + 0)) (zupL L 56 12 0)) R)) ∧ (((zup I67 56 11 2) 56 11) = 3 → (∀ I70 : Nat → Nat → Int32, I70 = (zup I67 56 11 2) → zA G (d + 1) mX12_next 143 [some (.ref 56), some (.int (-1))] [] (zh b (zup I70 56 9 (((zup I67 56 11 2) 56 9) + 1)) (zupL L 56 12 0)) R))))))) ∧ ((96 < (-1) ∧ (-1) < 123) → (∀ I71 : Nat → Nat → Int32, I71 = (zup I 56 10 (I 56 9)) → ((¬ ((zup I71 56 11 1) 56 11) = 3 → (∀ I73 : Nat → Nat → Int32, I73 = (zup I71 56 11 1) → zA G (d + 1) mX12_next 143 [some (.ref 56), some (.int (-1))] [] (zh b (zup I73 56 9 (((zup I71 56 11 1) 56 9) + 0)) (zupL L 56 12 0)) R)) ∧ (((zup I71 56 11 1) 56 11) = 3 → (∀ I74 : Nat → Nat → Int32, I74 = (zup I71 56 11 1) → zA G (d + 1) mX12_next 143 [some (.ref 56), some (.int (-1))] [] (zh b (zup I74 56 9 (((zup I71 56 11 1) 56 9) + 1)) (zupL L 56 12 0)) R))))))) ∧ (¬ 0 ≤ ((-1) : Int32) → (∀ I75 : Nat → Nat → Int32, I75 = (zup I 56 10 (I 56 9)) → ((¬ ((zup I75 56 11 0) 56 11) = 3 → (∀ I77 : Nat → Nat → Int32, I77 = (zup I75 56 11 0) → zA G (d + 1) mX12_next 143 [some (.ref 56), some (.int (-1))] [] (zh b (zup I77 56 9 (((zup I75 56 11 0) 56 9) + 0)) (zupL L 56 12 0)) R)) ∧ (((zup I75 56 11 0) 56 11) = 3 → (∀ I78 : Nat → Nat → Int32, I78 = (zup I75 56 11 0) → zA G (d + 1) mX12_next 143 [some (.ref 56), some (.int (-1))] [] (zh b (zup I78 56 9 (((zup I75 56 11 0) 56 9) + 1)) (zupL L 56 12 0)) R))))))) ∧ (¬ ((zup I 56 10 (I 56 9)) 56 5) ≤ ((zup I 56 10 (I 56 9)) 56 9) → (vp_in ((zup I 56 10 (I 56 9)) 56 9) 250 ∧ ((0 ≤ ((zup I 56 10 (I 56 9)) 61 (zx ((zup I 56 10 (I 56 9)) 56 9))) → ((¬ (96 < ((zup I 56 10 (I 56 9)) 61 (zx ((zup I 56 10 (I 56 9)) 56 9))) ∧ ((zup I 56 10 (I 56 9)) 61 (zx ((zup I 56 10 (I 56 9)) 56 9))) < 123) → ((¬ (47 < ((zup I 56 10 (I 56 9)) 61 (zx ((zup I 56 10 (I 56 9)) 56 9))) ∧ ((zup I 56 10 (I 56 9)) 61 (zx ((zup I 56 10 (I 56 9)) 56 9))) < 58) → ((¬ ((zup I 56 10 (I 56 9)) 61 (zx ((zup I 56 10 (I 56 9)) 56 9))) = 59 → (∀ I84 : Nat → Nat → Int32, I84 = (zup I 56 10 (I 56 9)) → ((¬ ((zup I84 56 11 4) 56 11) = 3 → (∀ I86 : Nat → Nat → Int32, I86 = (zup I84 56 11 4) → zA G (d + 1) mX12_next 143 [some (.ref 56), some (.int ((zup I 56 10 (I 56 9)) 61 (zx ((zup I 56 10 (I 56 9)) 56 9))))] [] (zh b (zup I86 56 9 (((zup I84 56 11 4) 56 9) + 0)) (zupL L 56 12 0)) R)) ∧ (((zup I84 56 11 4) 56 11) = 3 → (∀ I87 : Nat → Nat → Int32, I87 = (zup I84 56 11 4) → zA G (d + 1) mX12_next 143 [some (.ref 56), some (.int ((zup I 56 10 (I 56 9)) 61 (zx ((zup I 56 10 (I 56 9)) 56 9))))] [] (zh b (zup I87 56 9 (((zup I84 56 11 4) 56 9) + 1)) (zupL L 56 12 0)) R))))) ∧ (((zup I 56 10 (I 56 9)) 61 (zx ((zup I 56 10 (I 56 9)) 56 9))) = 59 → (∀ I88 : Nat → Nat → Int32, I88 = (zup I 56 10 (I 56 9)) → ((¬ ((zup I88 56 11 3) 56 11) = 3 → (∀ I90 : Nat → Nat → Int32, I90 = (zup I88 56 11 3) → zA G (d + 1) mX12_next 143 [some (.ref 56), some (.int ((zup I 56 10 (I 56 9)) 61 (zx ((zup I 56 10 (I 56 9)) 56 9))))] [] (zh b (zup I90 56 9 (((zup I88 56 11 3) 56 9) + 0)) (zupL L 56 12 0)) R)) ∧ (((zup I88 56 11 3) 56 11) = 3 → (∀ I91 : Nat → Nat → Int32, I91 = (zup I88 56 11 3) → zA G (d + 1) mX12_next 143 [some (.ref 56), some (.int ((zup I 56 10 (I 56 9)) 61 (zx ((zup I 56 10 (I 56 9)) 56 9))))] [] (zh b (zup I91 56 9 (((zup I88 56 11 3) 56 9) + 1)) (zupL L 56 12 0)) R))))))) ∧ ((47 < ((zup I 56 10 (I 56 9)) 61 (zx ((zup I 56 10 (I 56 9)) 56 9))) ∧ ((zup I 56 10 (I 56 9)) 61 (zx ((zup I 56 10 (I 56 9)) 56 9))) < 58) → (∀ I92 : Nat → Nat → Int32, I92 = (zup I 56 10 (I 56 9)) → ((¬ ((zup I92 56 11 2) 56 11) = 3 → (∀ I94 : Nat → Nat → Int32, I94 = (zup I92 56 11 2) → zA G (d + 1) mX12_next 143 [some (.ref 56), some (.int ((zup I 56 10 (I 56 9)) 61 (zx ((zup I 56 10 (I 56 9)) 56 9))))] [] (zh b (zup I94 56 9 (((zup I92 56 11 2) 56 9) + 0)) (zupL L 56 12 0)) R)) ∧ (((zup I92 56 11 2) 56 11) = 3 → (∀ I95 : Nat → Nat → Int32, I95 = (zup I92 56 11 2) → zA G (d + 1) mX12_next 143 [some (.ref 56), some (.int ((zup I 56 10 (I 56 9)) 61 (zx ((zup I 56 10 (I 56 9)) 56 9))))] [] (zh b (zup I95 56 9 (((zup I92 56 11 2) 56 9) + 1)) (zupL L 56 12 0)) R))))))) ∧ ((96 < ((zup I 56 10 (I 56 9)) 61 (zx ((zup I 56 10 (I 56 9)) 56 9))) ∧ ((zup I 56 10 (I 56 9)) 61 (zx ((zup I 56 10 (I 56 9)) 56 9))) < 123) → (∀ I96 : Nat → Nat → Int32, I96 = (zup I 56 10 (I 56 9)) → ((¬ ((zup I96 56 11 1) 56 11) = 3 → (∀ I98 : Nat → Nat → Int32, I98 = (zup I96 56 11 1) → zA G (d + 1) mX12_next 143 [some (.ref 56), some (.int ((zup I 56 10 (I 56 9)) 61 (zx ((zup I 56 10 (I 56 9)) 56 9))))] [] (zh b (zup I98 56 9 (((zup I96 56 11 1) 56 9) + 0)) (zupL L 56 12 0)) R)) ∧ (((zup I96 56 11 1) 56 11) = 3 → (∀ I99 : Nat → Nat → Int32, I99 = (zup I96 56 11 1) → zA G (d + 1) mX12_next 143 [some (.ref 56), some (.int ((zup I 56 10 (I 56 9)) 61 (zx ((zup I 56 10 (I 56 9)) 56 9))))] [] (zh b (zup I99 56 9 (((zup I96 56 11 1) 56 9) + 1)) (zupL L 56 12 0)) R))))))) ∧ (¬ 0 ≤ ((zup I 56 10 (I 56 9)) 61 (zx ((zup I 56 10 (I 56 9)) 56 9))) → (∀ I100 : Nat → Nat → Int32, I100 = (zup I 56 10 (I 56 9)) → ((¬ ((zup I100 56 11 0) 56 11) = 3 → (∀ I102 : Nat → Nat → Int32, I102 = (zup I100 56 11 0) → zA G (d + 1) mX12_next 143 [some (.ref 56), some (.int ((zup I 56 10 (I 56 9)) 61 (zx ((zup I 56 10 (I 56 9)) 56 9))))] [] (zh b (zup I102 56 9 (((zup I100 56 11 0) 56 9) + 0)) (zupL L 56 12 0)) R)) ∧ (((zup I100 56 11 0) 56 11) = 3 → (∀ I103 : Nat → Nat → Int32, I103 = (zup I100 56 11 0) → zA G (d + 1) mX12_next 143 [some (.ref 56), some (.int ((zup I 56 10 (I 56 9)) 61 (zx ((zup I 56 10 (I 56 9)) 56 9))))] [] (zh b (zup I103 56 9 (((zup I100 56 11 0) 56 9) + 1)) (zupL L 56 12 0)) R)))))))))) ∧ ((I 61 (zx (I 56 9))) = 32 → zA G (d + 1) mX12_next 0 [some (.ref 56), none] [] (zh b (zup I 56 9 ((I 56 9) + 1)) L) R)))))) :
    zA G (d + 1) mX12_next 0 [some (.ref 56), none] [] (zh b I L) R := by
  refine zi_aload_n dX12_next_0 rfl rfl ?_
  refine zg_getI (k := 9) dX12_next_1 zc12 rfl (Nat.le_of_ble_eq_true rfl) (Nat.le_of_ble_eq_true rfl) u_815 rfl ?_
  refine zi_aload_n dX12_next_4 rfl rfl ?_
  refine zg_getI (k := 5) dX12_next_5 zc12 rfl (Nat.le_of_ble_eq_true rfl) (Nat.le_of_ble_eq_true rfl) u_811 rfl ?_
  refine zi_icmp_ge (tgt := 38) dX12_next_8 (by decide) (fun c1 => ?_) (fun c1 => ?_)
  · have K := K.1 c1
    refine zi_aload_n dX12_next_38 rfl rfl ?_
    refine zi_aload_n dX12_next_39 rfl rfl ?_
    refine zg_getI (k := 9) dX12_next_40 zc12 rfl (Nat.le_of_ble_eq_true rfl) (Nat.le_of_ble_eq_true rfl) u_815 rfl ?_
    refine zg_putI (k := 10) dX12_next_43 zc12 rfl (Nat.le_of_ble_eq_true rfl) (Nat.le_of_ble_eq_true rfl) u_816 rfl rfl ?_
    refine zi_aload_n dX12_next_46 rfl rfl ?_
    refine zi_lconst (v := 0) dX12_next_47 (by decide) ?_
    refine zg_putL (k := 12) dX12_next_48 zc12 rfl (Nat.le_of_ble_eq_true rfl) (Nat.le_of_ble_eq_true rfl) u_818 rfl rfl ?_
    refine zi_aload_n dX12_next_51 rfl rfl ?_
    refine zg_getI (k := 9) dX12_next_52 zc12 rfl (Nat.le_of_ble_eq_true rfl) (Nat.le_of_ble_eq_true rfl) u_815 rfl ?_
    refine zi_aload_n dX12_next_55 rfl rfl ?_
    refine zg_getI (k := 5) dX12_next_56 zc12 rfl (Nat.le_of_ble_eq_true rfl) (Nat.le_of_ble_eq_true rfl) u_811 rfl ?_
    refine zi_icmp_ge (tgt := 74) dX12_next_59 (by decide) (fun c2 => ?_) (fun c2 => ?_)
    · have K := K.1 c2
      refine zi_iconst (v := (-1)) dX12_next_74 (by decide) ?_
      refine zi_istore_n (ls' := [some (.ref 56), some (.int (-1))]) dX12_next_75 rfl (by decide) rfl ?_
      refine zi_aload_n dX12_next_76 rfl rfl ?_
      refine zi_iload_n dX12_next_77 rfl rfl ?_
      refine zi_if_ge (tgt := 85) dX12_next_78 (by decide) (fun c3 => ?_) (fun c3 => ?_)
      · have K := K.1 c3
        refine zi_iload_n dX12_next_85 rfl rfl ?_
        refine zi_callS (N := mX12_isLetter) (av := [.int (-1)]) (st := [.ref 56]) (R1 := (some (.int (zb (96 < (-1) ∧ (-1) < 123))), zh b (zup I 56 10 (I 56 9)) (zupL L 56 12 0))) dX12_next_86 okX12_isLetter u_956 u_957 arX12_isLetter rfl (Nat.le_of_ble_eq_true rfl) (kX12_isLetter _) hR ?_
        show zA G (d + 1) mX12_next 89 [some (.ref 56), some (.int (-1))] [.int (zb (96 < (-1) ∧ (-1) < 123)), .ref 56] (zh b (zup I 56 10 (I 56 9)) (zupL L 56 12 0)) R
        refine zi_if_eq (tgt := 96) dX12_next_89 (by decide) (fun c4 => ?_) (fun c4 => ?_)
        · have K := K.1 (zb_0 c4)
          refine zi_iload_n dX12_next_96 rfl rfl ?_
          refine zi_callS (N := mX12_isFigure) (av := [.int (-1)]) (st := [.ref 56]) (R1 := (some (.int (zb (47 < (-1) ∧ (-1) < 58))), zh b (zup I 56 10 (I 56 9)) (zupL L 56 12 0))) dX12_next_97 okX12_isFigure u_959 u_960 arX12_isFigure rfl (Nat.le_of_ble_eq_true rfl) (kX12_isFigure _) hR ?_
          show zA G (d + 1) mX12_next 100 [some (.ref 56), some (.int (-1))] [.int (zb (47 < (-1) ∧ (-1) < 58)), .ref 56] (zh b (zup I 56 10 (I 56 9)) (zupL L 56 12 0)) R
          refine zi_if_eq (tgt := 107) dX12_next_100 (by decide) (fun c5 => ?_) (fun c5 => ?_)
          · have K := K.1 (zb_0 c5)
            refine zi_iload_n dX12_next_107 rfl rfl ?_
            refine zi_bipush (v := 59) dX12_next_108 (by decide) ?_
            refine zi_icmp_ne (tgt := 117) dX12_next_110 (by decide) (fun c6 => ?_) (fun c6 => ?_)
            · have K := K.1 c6
              refine zi_iconst (v := 4) dX12_next_117 (by decide) ?_
              refine zi_name (fun I7 hI7 => ?_)
              have K := K I7 hI7
              refine zg_putI (k := 11) dX12_next_118 zc12 rfl (Nat.le_of_ble_eq_true rfl) (Nat.le_of_ble_eq_true rfl) u_817 rfl rfl ?_
              refine zi_aload_n dX12_next_121 rfl rfl ?_
              refine zi_dup dX12_next_122 rfl ?_
              refine zg_getI (k := 9) dX12_next_123 zc12 rfl (Nat.le_of_ble_eq_true rfl) (Nat.le_of_ble_eq_true rfl) u_815 rfl ?_
              refine zi_aload_n dX12_next_126 rfl rfl ?_
              refine zg_getI (k := 11) dX12_next_127 zc12 rfl (Nat.le_of_ble_eq_true rfl) (Nat.le_of_ble_eq_true rfl) u_817 rfl ?_
              refine zi_iconst (v := 3) dX12_next_130 (by decide) ?_
              refine zi_icmp_ne (tgt := 138) dX12_next_131 (by decide) (fun c8 => ?_) (fun c8 => ?_)
              · have K := K.1 c8
                refine zi_iconst (v := 0) dX12_next_138 (by decide) ?_
                refine zi_iadd dX12_next_139 ?_
                refine zi_name (fun I9 hI9 => ?_)
                have K := K I9 hI9
                refine zg_putI (k := 9) dX12_next_140 zc12 rfl (Nat.le_of_ble_eq_true rfl) (Nat.le_of_ble_eq_true rfl) u_815 rfl rfl ?_
                exact K
              · have K := K.2 c8
                refine zi_iconst (v := 1) dX12_next_134 (by decide) ?_
                refine zi_goto (tgt := 139) dX12_next_135 (by decide) ?_
                refine zi_iadd dX12_next_139 ?_
                refine zi_name (fun I10 hI10 => ?_)
                have K := K I10 hI10
                refine zg_putI (k := 9) dX12_next_140 zc12 rfl (Nat.le_of_ble_eq_true rfl) (Nat.le_of_ble_eq_true rfl) u_815 rfl rfl ?_
                exact K
            · have K := K.2 c6
              refine zi_iconst (v := 3) dX12_next_113 (by decide) ?_
              refine zi_goto (tgt := 118) dX12_next_114 (by decide) ?_
              refine zi_name (fun I11 hI11 => ?_)
              have K := K I11 hI11
              refine zg_putI (k := 11) dX12_next_118 zc12 rfl (Nat.le_of_ble_eq_true rfl) (Nat.le_of_ble_eq_true rfl) u_817 rfl rfl ?_
              refine zi_aload_n dX12_next_121 rfl rfl ?_
              refine zi_dup dX12_next_122 rfl ?_
              refine zg_getI (k := 9) dX12_next_123 zc12 rfl (Nat.le_of_ble_eq_true rfl) (Nat.le_of_ble_eq_true rfl) u_815 rfl ?_
              refine zi_aload_n dX12_next_126 rfl rfl ?_
              refine zg_getI (k := 11) dX12_next_127 zc12 rfl (Nat.le_of_ble_eq_true rfl) (Nat.le_of_ble_eq_true rfl) u_817 rfl ?_
              refine zi_iconst (v := 3) dX12_next_130 (by decide) ?_
              refine zi_icmp_ne (tgt := 138) dX12_next_131 (by decide) (fun c12 => ?_) (fun c12 => ?_)
              · have K := K.1 c12
                refine zi_iconst (v := 0) dX12_next_138 (by decide) ?_
                refine zi_iadd dX12_next_139 ?_
                refine zi_name (fun I13 hI13 => ?_)
                have K := K I13 hI13
                refine zg_putI (k := 9) dX12_next_140 zc12 rfl (Nat.le_of_ble_eq_true rfl) (Nat.le_of_ble_eq_true rfl) u_815 rfl rfl ?_
                exact K
              · have K := K.2 c12
                refine zi_iconst (v := 1) dX12_next_134 (by decide) ?_
                refine zi_goto (tgt := 139) dX12_next_135 (by decide) ?_
                refine zi_iadd dX12_next_139 ?_
                refine zi_name (fun I14 hI14 => ?_)
                have K := K I14 hI14
                refine zg_putI (k := 9) dX12_next_140 zc12 rfl (Nat.le_of_ble_eq_true rfl) (Nat.le_of_ble_eq_true rfl) u_815 rfl rfl ?_
                exact K
          · have K := K.2 (zb_1 c5)
            refine zi_iconst (v := 2) dX12_next_103 (by decide) ?_
            refine zi_goto (tgt := 118) dX12_next_104 (by decide) ?_
            refine zi_name (fun I15 hI15 => ?_)
            have K := K I15 hI15
            refine zg_putI (k := 11) dX12_next_118 zc12 rfl (Nat.le_of_ble_eq_true rfl) (Nat.le_of_ble_eq_true rfl) u_817 rfl rfl ?_
            refine zi_aload_n dX12_next_121 rfl rfl ?_
            refine zi_dup dX12_next_122 rfl ?_
            refine zg_getI (k := 9) dX12_next_123 zc12 rfl (Nat.le_of_ble_eq_true rfl) (Nat.le_of_ble_eq_true rfl) u_815 rfl ?_
            refine zi_aload_n dX12_next_126 rfl rfl ?_
            refine zg_getI (k := 11) dX12_next_127 zc12 rfl (Nat.le_of_ble_eq_true rfl) (Nat.le_of_ble_eq_true rfl) u_817 rfl ?_
            refine zi_iconst (v := 3) dX12_next_130 (by decide) ?_
            refine zi_icmp_ne (tgt := 138) dX12_next_131 (by decide) (fun c16 => ?_) (fun c16 => ?_)
            · have K := K.1 c16
              refine zi_iconst (v := 0) dX12_next_138 (by decide) ?_
              refine zi_iadd dX12_next_139 ?_
              refine zi_name (fun I17 hI17 => ?_)
              have K := K I17 hI17
              refine zg_putI (k := 9) dX12_next_140 zc12 rfl (Nat.le_of_ble_eq_true rfl) (Nat.le_of_ble_eq_true rfl) u_815 rfl rfl ?_
              exact K
            · have K := K.2 c16
              refine zi_iconst (v := 1) dX12_next_134 (by decide) ?_
              refine zi_goto (tgt := 139) dX12_next_135 (by decide) ?_
              refine zi_iadd dX12_next_139 ?_
              refine zi_name (fun I18 hI18 => ?_)
              have K := K I18 hI18
              refine zg_putI (k := 9) dX12_next_140 zc12 rfl (Nat.le_of_ble_eq_true rfl) (Nat.le_of_ble_eq_true rfl) u_815 rfl rfl ?_
              exact K
        · have K := K.2 (zb_1 c4)
          refine zi_iconst (v := 1) dX12_next_92 (by decide) ?_
          refine zi_goto (tgt := 118) dX12_next_93 (by decide) ?_
          refine zi_name (fun I19 hI19 => ?_)
          have K := K I19 hI19
          refine zg_putI (k := 11) dX12_next_118 zc12 rfl (Nat.le_of_ble_eq_true rfl) (Nat.le_of_ble_eq_true rfl) u_817 rfl rfl ?_
          refine zi_aload_n dX12_next_121 rfl rfl ?_
          refine zi_dup dX12_next_122 rfl ?_
          refine zg_getI (k := 9) dX12_next_123 zc12 rfl (Nat.le_of_ble_eq_true rfl) (Nat.le_of_ble_eq_true rfl) u_815 rfl ?_
          refine zi_aload_n dX12_next_126 rfl rfl ?_
          refine zg_getI (k := 11) dX12_next_127 zc12 rfl (Nat.le_of_ble_eq_true rfl) (Nat.le_of_ble_eq_true rfl) u_817 rfl ?_
          refine zi_iconst (v := 3) dX12_next_130 (by decide) ?_
          refine zi_icmp_ne (tgt := 138) dX12_next_131 (by decide) (fun c20 => ?_) (fun c20 => ?_)
          · have K := K.1 c20
            refine zi_iconst (v := 0) dX12_next_138 (by decide) ?_
            refine zi_iadd dX12_next_139 ?_
            refine zi_name (fun I21 hI21 => ?_)
            have K := K I21 hI21
            refine zg_putI (k := 9) dX12_next_140 zc12 rfl (Nat.le_of_ble_eq_true rfl) (Nat.le_of_ble_eq_true rfl) u_815 rfl rfl ?_
            exact K
          · have K := K.2 c20
            refine zi_iconst (v := 1) dX12_next_134 (by decide) ?_
            refine zi_goto (tgt := 139) dX12_next_135 (by decide) ?_
            refine zi_iadd dX12_next_139 ?_
            refine zi_name (fun I22 hI22 => ?_)
            have K := K I22 hI22
            refine zg_putI (k := 9) dX12_next_140 zc12 rfl (Nat.le_of_ble_eq_true rfl) (Nat.le_of_ble_eq_true rfl) u_815 rfl rfl ?_
            exact K
      · have K := K.2 c3
        refine zi_iconst (v := 0) dX12_next_81 (by decide) ?_
        refine zi_goto (tgt := 118) dX12_next_82 (by decide) ?_
        refine zi_name (fun I23 hI23 => ?_)
        have K := K I23 hI23
        refine zg_putI (k := 11) dX12_next_118 zc12 rfl (Nat.le_of_ble_eq_true rfl) (Nat.le_of_ble_eq_true rfl) u_817 rfl rfl ?_
        refine zi_aload_n dX12_next_121 rfl rfl ?_
        refine zi_dup dX12_next_122 rfl ?_
        refine zg_getI (k := 9) dX12_next_123 zc12 rfl (Nat.le_of_ble_eq_true rfl) (Nat.le_of_ble_eq_true rfl) u_815 rfl ?_
        refine zi_aload_n dX12_next_126 rfl rfl ?_
        refine zg_getI (k := 11) dX12_next_127 zc12 rfl (Nat.le_of_ble_eq_true rfl) (Nat.le_of_ble_eq_true rfl) u_817 rfl ?_
        refine zi_iconst (v := 3) dX12_next_130 (by decide) ?_
        refine zi_icmp_ne (tgt := 138) dX12_next_131 (by decide) (fun c24 => ?_) (fun c24 => ?_)
        · have K := K.1 c24
          refine zi_iconst (v := 0) dX12_next_138 (by decide) ?_
          refine zi_iadd dX12_next_139 ?_
          refine zi_name (fun I25 hI25 => ?_)
          have K := K I25 hI25
          refine zg_putI (k := 9) dX12_next_140 zc12 rfl (Nat.le_of_ble_eq_true rfl) (Nat.le_of_ble_eq_true rfl) u_815 rfl rfl ?_
          exact K
        · have K := K.2 c24
          refine zi_iconst (v := 1) dX12_next_134 (by decide) ?_
          refine zi_goto (tgt := 139) dX12_next_135 (by decide) ?_
          refine zi_iadd dX12_next_139 ?_
          refine zi_name (fun I26 hI26 => ?_)
          have K := K I26 hI26
          refine zg_putI (k := 9) dX12_next_140 zc12 rfl (Nat.le_of_ble_eq_true rfl) (Nat.le_of_ble_eq_true rfl) u_815 rfl rfl ?_
          exact K
    · have K := K.2 c2
      refine zi_aload_n dX12_next_62 rfl rfl ?_
      refine zg_getF (k := 4) (v := .ref 61) dX12_next_63 zc12 rfl (Nat.le_of_ble_eq_true rfl) (Nat.le_of_ble_eq_true rfl) u_810 rfl (rfl) ?_
      refine zi_aload_n dX12_next_66 rfl rfl ?_
      refine zg_getI (k := 9) dX12_next_67 zc12 rfl (Nat.le_of_ble_eq_true rfl) (Nat.le_of_ble_eq_true rfl) u_815 rfl ?_
      have o27 := K.1
      have K := K.2
      refine zg_iaload dX12_next_70 (rfl) (Nat.le_of_ble_eq_true rfl) o27 ?_
      refine zi_goto (tgt := 75) dX12_next_71 (by decide) ?_
      refine zi_istore_n (ls' := [some (.ref 56), some (.int ((zup I 56 10 (I 56 9)) 61 (zx ((zup I 56 10 (I 56 9)) 56 9))))]) dX12_next_75 rfl (by decide) rfl ?_
      refine zi_aload_n dX12_next_76 rfl rfl ?_
      refine zi_iload_n dX12_next_77 rfl rfl ?_
      refine zi_if_ge (tgt := 85) dX12_next_78 (by decide) (fun c28 => ?_) (fun c28 => ?_)
      · have K := K.1 c28
        refine zi_iload_n dX12_next_85 rfl rfl ?_
        refine zi_callS (N := mX12_isLetter) (av := [.int ((zup I 56 10 (I 56 9)) 61 (zx ((zup I 56 10 (I 56 9)) 56 9)))]) (st := [.ref 56]) (R1 := (some (.int (zb (96 < ((zup I 56 10 (I 56 9)) 61 (zx ((zup I 56 10 (I 56 9)) 56 9))) ∧ ((zup I 56 10 (I 56 9)) 61 (zx ((zup I 56 10 (I 56 9)) 56 9))) < 123))), zh b (zup I 56 10 (I 56 9)) (zupL L 56 12 0))) dX12_next_86 okX12_isLetter u_956 u_957 arX12_isLetter rfl (Nat.le_of_ble_eq_true rfl) (kX12_isLetter _) hR ?_
        show zA G (d + 1) mX12_next 89 [some (.ref 56), some (.int ((zup I 56 10 (I 56 9)) 61 (zx ((zup I 56 10 (I 56 9)) 56 9))))] [.int (zb (96 < ((zup I 56 10 (I 56 9)) 61 (zx ((zup I 56 10 (I 56 9)) 56 9))) ∧ ((zup I 56 10 (I 56 9)) 61 (zx ((zup I 56 10 (I 56 9)) 56 9))) < 123)), .ref 56] (zh b (zup I 56 10 (I 56 9)) (zupL L 56 12 0)) R
        refine zi_if_eq (tgt := 96) dX12_next_89 (by decide) (fun c29 => ?_) (fun c29 => ?_)
        · have K := K.1 (zb_0 c29)
          refine zi_iload_n dX12_next_96 rfl rfl ?_
          refine zi_callS (N := mX12_isFigure) (av := [.int ((zup I 56 10 (I 56 9)) 61 (zx ((zup I 56 10 (I 56 9)) 56 9)))]) (st := [.ref 56]) (R1 := (some (.int (zb (47 < ((zup I 56 10 (I 56 9)) 61 (zx ((zup I 56 10 (I 56 9)) 56 9))) ∧ ((zup I 56 10 (I 56 9)) 61 (zx ((zup I 56 10 (I 56 9)) 56 9))) < 58))), zh b (zup I 56 10 (I 56 9)) (zupL L 56 12 0))) dX12_next_97 okX12_isFigure u_959 u_960 arX12_isFigure rfl (Nat.le_of_ble_eq_true rfl) (kX12_isFigure _) hR ?_
          show zA G (d + 1) mX12_next 100 [some (.ref 56), some (.int ((zup I 56 10 (I 56 9)) 61 (zx ((zup I 56 10 (I 56 9)) 56 9))))] [.int (zb (47 < ((zup I 56 10 (I 56 9)) 61 (zx ((zup I 56 10 (I 56 9)) 56 9))) ∧ ((zup I 56 10 (I 56 9)) 61 (zx ((zup I 56 10 (I 56 9)) 56 9))) < 58)), .ref 56] (zh b (zup I 56 10 (I 56 9)) (zupL L 56 12 0)) R
          refine zi_if_eq (tgt := 107) dX12_next_100 (by decide) (fun c30 => ?_) (fun c30 => ?_)
          · have K := K.1 (zb_0 c30)
            refine zi_iload_n dX12_next_107 rfl rfl ?_
            refine zi_bipush (v := 59) dX12_next_108 (by decide) ?_
            refine zi_icmp_ne (tgt := 117) dX12_next_110 (by decide) (fun c31 => ?_) (fun c31 => ?_)
            · have K := K.1 c31
              refine zi_iconst (v := 4) dX12_next_117 (by decide) ?_
              refine zi_name (fun I32 hI32 => ?_)
              have K := K I32 hI32
              refine zg_putI (k := 11) dX12_next_118 zc12 rfl (Nat.le_of_ble_eq_true rfl) (Nat.le_of_ble_eq_true rfl) u_817 rfl rfl ?_
              refine zi_aload_n dX12_next_121 rfl rfl ?_
              refine zi_dup dX12_next_122 rfl ?_
              refine zg_getI (k := 9) dX12_next_123 zc12 rfl (Nat.le_of_ble_eq_true rfl) (Nat.le_of_ble_eq_true rfl) u_815 rfl ?_
              refine zi_aload_n dX12_next_126 rfl rfl ?_
              refine zg_getI (k := 11) dX12_next_127 zc12 rfl (Nat.le_of_ble_eq_true rfl) (Nat.le_of_ble_eq_true rfl) u_817 rfl ?_
              refine zi_iconst (v := 3) dX12_next_130 (by decide) ?_
              refine zi_icmp_ne (tgt := 138) dX12_next_131 (by decide) (fun c33 => ?_) (fun c33 => ?_)
              · have K := K.1 c33
                refine zi_iconst (v := 0) dX12_next_138 (by decide) ?_
                refine zi_iadd dX12_next_139 ?_
                refine zi_name (fun I34 hI34 => ?_)
                have K := K I34 hI34
                refine zg_putI (k := 9) dX12_next_140 zc12 rfl (Nat.le_of_ble_eq_true rfl) (Nat.le_of_ble_eq_true rfl) u_815 rfl rfl ?_
                exact K
              · have K := K.2 c33
                refine zi_iconst (v := 1) dX12_next_134 (by decide) ?_
                refine zi_goto (tgt := 139) dX12_next_135 (by decide) ?_
                refine zi_iadd dX12_next_139 ?_
                refine zi_name (fun I35 hI35 => ?_)
                have K := K I35 hI35
                refine zg_putI (k := 9) dX12_next_140 zc12 rfl (Nat.le_of_ble_eq_true rfl) (Nat.le_of_ble_eq_true rfl) u_815 rfl rfl ?_
                exact K
            · have K := K.2 c31
              refine zi_iconst (v := 3) dX12_next_113 (by decide) ?_
              refine zi_goto (tgt := 118) dX12_next_114 (by decide) ?_
              refine zi_name (fun I36 hI36 => ?_)
              have K := K I36 hI36
              refine zg_putI (k := 11) dX12_next_118 zc12 rfl (Nat.le_of_ble_eq_true rfl) (Nat.le_of_ble_eq_true rfl) u_817 rfl rfl ?_
              refine zi_aload_n dX12_next_121 rfl rfl ?_
              refine zi_dup dX12_next_122 rfl ?_
              refine zg_getI (k := 9) dX12_next_123 zc12 rfl (Nat.le_of_ble_eq_true rfl) (Nat.le_of_ble_eq_true rfl) u_815 rfl ?_
              refine zi_aload_n dX12_next_126 rfl rfl ?_
              refine zg_getI (k := 11) dX12_next_127 zc12 rfl (Nat.le_of_ble_eq_true rfl) (Nat.le_of_ble_eq_true rfl) u_817 rfl ?_
              refine zi_iconst (v := 3) dX12_next_130 (by decide) ?_
              refine zi_icmp_ne (tgt := 138) dX12_next_131 (by decide) (fun c37 => ?_) (fun c37 => ?_)
              · have K := K.1 c37
                refine zi_iconst (v := 0) dX12_next_138 (by decide) ?_
                refine zi_iadd dX12_next_139 ?_
                refine zi_name (fun I38 hI38 => ?_)
                have K := K I38 hI38
                refine zg_putI (k := 9) dX12_next_140 zc12 rfl (Nat.le_of_ble_eq_true rfl) (Nat.le_of_ble_eq_true rfl) u_815 rfl rfl ?_
                exact K
              · have K := K.2 c37
                refine zi_iconst (v := 1) dX12_next_134 (by decide) ?_
                refine zi_goto (tgt := 139) dX12_next_135 (by decide) ?_
                refine zi_iadd dX12_next_139 ?_
                refine zi_name (fun I39 hI39 => ?_)
                have K := K I39 hI39
                refine zg_putI (k := 9) dX12_next_140 zc12 rfl (Nat.le_of_ble_eq_true rfl) (Nat.le_of_ble_eq_true rfl) u_815 rfl rfl ?_
                exact K
          · have K := K.2 (zb_1 c30)
            refine zi_iconst (v := 2) dX12_next_103 (by decide) ?_
            refine zi_goto (tgt := 118) dX12_next_104 (by decide) ?_
            refine zi_name (fun I40 hI40 => ?_)
            have K := K I40 hI40
            refine zg_putI (k := 11) dX12_next_118 zc12 rfl (Nat.le_of_ble_eq_true rfl) (Nat.le_of_ble_eq_true rfl) u_817 rfl rfl ?_
            refine zi_aload_n dX12_next_121 rfl rfl ?_
            refine zi_dup dX12_next_122 rfl ?_
            refine zg_getI (k := 9) dX12_next_123 zc12 rfl (Nat.le_of_ble_eq_true rfl) (Nat.le_of_ble_eq_true rfl) u_815 rfl ?_
            refine zi_aload_n dX12_next_126 rfl rfl ?_
            refine zg_getI (k := 11) dX12_next_127 zc12 rfl (Nat.le_of_ble_eq_true rfl) (Nat.le_of_ble_eq_true rfl) u_817 rfl ?_
            refine zi_iconst (v := 3) dX12_next_130 (by decide) ?_
            refine zi_icmp_ne (tgt := 138) dX12_next_131 (by decide) (fun c41 => ?_) (fun c41 => ?_)
            · have K := K.1 c41
              refine zi_iconst (v := 0) dX12_next_138 (by decide) ?_
              refine zi_iadd dX12_next_139 ?_
              refine zi_name (fun I42 hI42 => ?_)
              have K := K I42 hI42
              refine zg_putI (k := 9) dX12_next_140 zc12 rfl (Nat.le_of_ble_eq_true rfl) (Nat.le_of_ble_eq_true rfl) u_815 rfl rfl ?_
              exact K
            · have K := K.2 c41
              refine zi_iconst (v := 1) dX12_next_134 (by decide) ?_
              refine zi_goto (tgt := 139) dX12_next_135 (by decide) ?_
              refine zi_iadd dX12_next_139 ?_
              refine zi_name (fun I43 hI43 => ?_)
              have K := K I43 hI43
              refine zg_putI (k := 9) dX12_next_140 zc12 rfl (Nat.le_of_ble_eq_true rfl) (Nat.le_of_ble_eq_true rfl) u_815 rfl rfl ?_
              exact K
        · have K := K.2 (zb_1 c29)
          refine zi_iconst (v := 1) dX12_next_92 (by decide) ?_
          refine zi_goto (tgt := 118) dX12_next_93 (by decide) ?_
          refine zi_name (fun I44 hI44 => ?_)
          have K := K I44 hI44
          refine zg_putI (k := 11) dX12_next_118 zc12 rfl (Nat.le_of_ble_eq_true rfl) (Nat.le_of_ble_eq_true rfl) u_817 rfl rfl ?_
          refine zi_aload_n dX12_next_121 rfl rfl ?_
          refine zi_dup dX12_next_122 rfl ?_
          refine zg_getI (k := 9) dX12_next_123 zc12 rfl (Nat.le_of_ble_eq_true rfl) (Nat.le_of_ble_eq_true rfl) u_815 rfl ?_
          refine zi_aload_n dX12_next_126 rfl rfl ?_
          refine zg_getI (k := 11) dX12_next_127 zc12 rfl (Nat.le_of_ble_eq_true rfl) (Nat.le_of_ble_eq_true rfl) u_817 rfl ?_
          refine zi_iconst (v := 3) dX12_next_130 (by decide) ?_
          refine zi_icmp_ne (tgt := 138) dX12_next_131 (by decide) (fun c45 => ?_) (fun c45 => ?_)
          · have K := K.1 c45
            refine zi_iconst (v := 0) dX12_next_138 (by decide) ?_
            refine zi_iadd dX12_next_139 ?_
            refine zi_name (fun I46 hI46 => ?_)
            have K := K I46 hI46
            refine zg_putI (k := 9) dX12_next_140 zc12 rfl (Nat.le_of_ble_eq_true rfl) (Nat.le_of_ble_eq_true rfl) u_815 rfl rfl ?_
            exact K
          · have K := K.2 c45
            refine zi_iconst (v := 1) dX12_next_134 (by decide) ?_
            refine zi_goto (tgt := 139) dX12_next_135 (by decide) ?_
            refine zi_iadd dX12_next_139 ?_
            refine zi_name (fun I47 hI47 => ?_)
            have K := K I47 hI47
            refine zg_putI (k := 9) dX12_next_140 zc12 rfl (Nat.le_of_ble_eq_true rfl) (Nat.le_of_ble_eq_true rfl) u_815 rfl rfl ?_
            exact K
      · have K := K.2 c28
        refine zi_iconst (v := 0) dX12_next_81 (by decide) ?_
        refine zi_goto (tgt := 118) dX12_next_82 (by decide) ?_
        refine zi_name (fun I48 hI48 => ?_)
        have K := K I48 hI48
        refine zg_putI (k := 11) dX12_next_118 zc12 rfl (Nat.le_of_ble_eq_true rfl) (Nat.le_of_ble_eq_true rfl) u_817 rfl rfl ?_
        refine zi_aload_n dX12_next_121 rfl rfl ?_
        refine zi_dup dX12_next_122 rfl ?_
        refine zg_getI (k := 9) dX12_next_123 zc12 rfl (Nat.le_of_ble_eq_true rfl) (Nat.le_of_ble_eq_true rfl) u_815 rfl ?_
        refine zi_aload_n dX12_next_126 rfl rfl ?_
        refine zg_getI (k := 11) dX12_next_127 zc12 rfl (Nat.le_of_ble_eq_true rfl) (Nat.le_of_ble_eq_true rfl) u_817 rfl ?_
        refine zi_iconst (v := 3) dX12_next_130 (by decide) ?_
        refine zi_icmp_ne (tgt := 138) dX12_next_131 (by decide) (fun c49 => ?_) (fun c49 => ?_)
        · have K := K.1 c49
          refine zi_iconst (v := 0) dX12_next_138 (by decide) ?_
          refine zi_iadd dX12_next_139 ?_
          refine zi_name (fun I50 hI50 => ?_)
          have K := K I50 hI50
          refine zg_putI (k := 9) dX12_next_140 zc12 rfl (Nat.le_of_ble_eq_true rfl) (Nat.le_of_ble_eq_true rfl) u_815 rfl rfl ?_
          exact K
        · have K := K.2 c49
          refine zi_iconst (v := 1) dX12_next_134 (by decide) ?_
          refine zi_goto (tgt := 139) dX12_next_135 (by decide) ?_
          refine zi_iadd dX12_next_139 ?_
          refine zi_name (fun I51 hI51 => ?_)
          have K := K I51 hI51
          refine zg_putI (k := 9) dX12_next_140 zc12 rfl (Nat.le_of_ble_eq_true rfl) (Nat.le_of_ble_eq_true rfl) u_815 rfl rfl ?_
          exact K
  · have K := K.2 c1
    refine zi_aload_n dX12_next_11 rfl rfl ?_
    refine zg_getF (k := 4) (v := .ref 61) dX12_next_12 zc12 rfl (Nat.le_of_ble_eq_true rfl) (Nat.le_of_ble_eq_true rfl) u_810 rfl (rfl) ?_
    refine zi_aload_n dX12_next_15 rfl rfl ?_
    refine zg_getI (k := 9) dX12_next_16 zc12 rfl (Nat.le_of_ble_eq_true rfl) (Nat.le_of_ble_eq_true rfl) u_815 rfl ?_
    have o52 := K.1
    have K := K.2
    refine zg_iaload dX12_next_19 (rfl) (Nat.le_of_ble_eq_true rfl) o52 ?_
    refine zi_bipush (v := 32) dX12_next_20 (by decide) ?_
    refine zi_icmp_ne (tgt := 38) dX12_next_22 (by decide) (fun c53 => ?_) (fun c53 => ?_)
    · have K := K.1 c53
      refine zi_aload_n dX12_next_38 rfl rfl ?_
      refine zi_aload_n dX12_next_39 rfl rfl ?_
      refine zg_getI (k := 9) dX12_next_40 zc12 rfl (Nat.le_of_ble_eq_true rfl) (Nat.le_of_ble_eq_true rfl) u_815 rfl ?_
      refine zg_putI (k := 10) dX12_next_43 zc12 rfl (Nat.le_of_ble_eq_true rfl) (Nat.le_of_ble_eq_true rfl) u_816 rfl rfl ?_
      refine zi_aload_n dX12_next_46 rfl rfl ?_
      refine zi_lconst (v := 0) dX12_next_47 (by decide) ?_
      refine zg_putL (k := 12) dX12_next_48 zc12 rfl (Nat.le_of_ble_eq_true rfl) (Nat.le_of_ble_eq_true rfl) u_818 rfl rfl ?_
      refine zi_aload_n dX12_next_51 rfl rfl ?_
      refine zg_getI (k := 9) dX12_next_52 zc12 rfl (Nat.le_of_ble_eq_true rfl) (Nat.le_of_ble_eq_true rfl) u_815 rfl ?_
      refine zi_aload_n dX12_next_55 rfl rfl ?_
      refine zg_getI (k := 5) dX12_next_56 zc12 rfl (Nat.le_of_ble_eq_true rfl) (Nat.le_of_ble_eq_true rfl) u_811 rfl ?_
      refine zi_icmp_ge (tgt := 74) dX12_next_59 (by decide) (fun c54 => ?_) (fun c54 => ?_)
      · have K := K.1 c54
        refine zi_iconst (v := (-1)) dX12_next_74 (by decide) ?_
        refine zi_istore_n (ls' := [some (.ref 56), some (.int (-1))]) dX12_next_75 rfl (by decide) rfl ?_
        refine zi_aload_n dX12_next_76 rfl rfl ?_
        refine zi_iload_n dX12_next_77 rfl rfl ?_
        refine zi_if_ge (tgt := 85) dX12_next_78 (by decide) (fun c55 => ?_) (fun c55 => ?_)
        · have K := K.1 c55
          refine zi_iload_n dX12_next_85 rfl rfl ?_
          refine zi_callS (N := mX12_isLetter) (av := [.int (-1)]) (st := [.ref 56]) (R1 := (some (.int (zb (96 < (-1) ∧ (-1) < 123))), zh b (zup I 56 10 (I 56 9)) (zupL L 56 12 0))) dX12_next_86 okX12_isLetter u_956 u_957 arX12_isLetter rfl (Nat.le_of_ble_eq_true rfl) (kX12_isLetter _) hR ?_
          show zA G (d + 1) mX12_next 89 [some (.ref 56), some (.int (-1))] [.int (zb (96 < (-1) ∧ (-1) < 123)), .ref 56] (zh b (zup I 56 10 (I 56 9)) (zupL L 56 12 0)) R
          refine zi_if_eq (tgt := 96) dX12_next_89 (by decide) (fun c56 => ?_) (fun c56 => ?_)
          · have K := K.1 (zb_0 c56)
            refine zi_iload_n dX12_next_96 rfl rfl ?_
            refine zi_callS (N := mX12_isFigure) (av := [.int (-1)]) (st := [.ref 56]) (R1 := (some (.int (zb (47 < (-1) ∧ (-1) < 58))), zh b (zup I 56 10 (I 56 9)) (zupL L 56 12 0))) dX12_next_97 okX12_isFigure u_959 u_960 arX12_isFigure rfl (Nat.le_of_ble_eq_true rfl) (kX12_isFigure _) hR ?_
            show zA G (d + 1) mX12_next 100 [some (.ref 56), some (.int (-1))] [.int (zb (47 < (-1) ∧ (-1) < 58)), .ref 56] (zh b (zup I 56 10 (I 56 9)) (zupL L 56 12 0)) R
            refine zi_if_eq (tgt := 107) dX12_next_100 (by decide) (fun c57 => ?_) (fun c57 => ?_)
            · have K := K.1 (zb_0 c57)
              refine zi_iload_n dX12_next_107 rfl rfl ?_
              refine zi_bipush (v := 59) dX12_next_108 (by decide) ?_
              refine zi_icmp_ne (tgt := 117) dX12_next_110 (by decide) (fun c58 => ?_) (fun c58 => ?_)
              · have K := K.1 c58
                refine zi_iconst (v := 4) dX12_next_117 (by decide) ?_
                refine zi_name (fun I59 hI59 => ?_)
                have K := K I59 hI59
                refine zg_putI (k := 11) dX12_next_118 zc12 rfl (Nat.le_of_ble_eq_true rfl) (Nat.le_of_ble_eq_true rfl) u_817 rfl rfl ?_
                refine zi_aload_n dX12_next_121 rfl rfl ?_
                refine zi_dup dX12_next_122 rfl ?_
                refine zg_getI (k := 9) dX12_next_123 zc12 rfl (Nat.le_of_ble_eq_true rfl) (Nat.le_of_ble_eq_true rfl) u_815 rfl ?_
                refine zi_aload_n dX12_next_126 rfl rfl ?_
                refine zg_getI (k := 11) dX12_next_127 zc12 rfl (Nat.le_of_ble_eq_true rfl) (Nat.le_of_ble_eq_true rfl) u_817 rfl ?_
                refine zi_iconst (v := 3) dX12_next_130 (by decide) ?_
                refine zi_icmp_ne (tgt := 138) dX12_next_131 (by decide) (fun c60 => ?_) (fun c60 => ?_)
                · have K := K.1 c60
                  refine zi_iconst (v := 0) dX12_next_138 (by decide) ?_
                  refine zi_iadd dX12_next_139 ?_
                  refine zi_name (fun I61 hI61 => ?_)
                  have K := K I61 hI61
                  refine zg_putI (k := 9) dX12_next_140 zc12 rfl (Nat.le_of_ble_eq_true rfl) (Nat.le_of_ble_eq_true rfl) u_815 rfl rfl ?_
                  exact K
                · have K := K.2 c60
                  refine zi_iconst (v := 1) dX12_next_134 (by decide) ?_
                  refine zi_goto (tgt := 139) dX12_next_135 (by decide) ?_
                  refine zi_iadd dX12_next_139 ?_
                  refine zi_name (fun I62 hI62 => ?_)
                  have K := K I62 hI62
                  refine zg_putI (k := 9) dX12_next_140 zc12 rfl (Nat.le_of_ble_eq_true rfl) (Nat.le_of_ble_eq_true rfl) u_815 rfl rfl ?_
                  exact K
              · have K := K.2 c58
                refine zi_iconst (v := 3) dX12_next_113 (by decide) ?_
                refine zi_goto (tgt := 118) dX12_next_114 (by decide) ?_
                refine zi_name (fun I63 hI63 => ?_)
                have K := K I63 hI63
                refine zg_putI (k := 11) dX12_next_118 zc12 rfl (Nat.le_of_ble_eq_true rfl) (Nat.le_of_ble_eq_true rfl) u_817 rfl rfl ?_
                refine zi_aload_n dX12_next_121 rfl rfl ?_
                refine zi_dup dX12_next_122 rfl ?_
                refine zg_getI (k := 9) dX12_next_123 zc12 rfl (Nat.le_of_ble_eq_true rfl) (Nat.le_of_ble_eq_true rfl) u_815 rfl ?_
                refine zi_aload_n dX12_next_126 rfl rfl ?_
                refine zg_getI (k := 11) dX12_next_127 zc12 rfl (Nat.le_of_ble_eq_true rfl) (Nat.le_of_ble_eq_true rfl) u_817 rfl ?_
                refine zi_iconst (v := 3) dX12_next_130 (by decide) ?_
                refine zi_icmp_ne (tgt := 138) dX12_next_131 (by decide) (fun c64 => ?_) (fun c64 => ?_)
                · have K := K.1 c64
                  refine zi_iconst (v := 0) dX12_next_138 (by decide) ?_
                  refine zi_iadd dX12_next_139 ?_
                  refine zi_name (fun I65 hI65 => ?_)
                  have K := K I65 hI65
                  refine zg_putI (k := 9) dX12_next_140 zc12 rfl (Nat.le_of_ble_eq_true rfl) (Nat.le_of_ble_eq_true rfl) u_815 rfl rfl ?_
                  exact K
                · have K := K.2 c64
                  refine zi_iconst (v := 1) dX12_next_134 (by decide) ?_
                  refine zi_goto (tgt := 139) dX12_next_135 (by decide) ?_
                  refine zi_iadd dX12_next_139 ?_
                  refine zi_name (fun I66 hI66 => ?_)
                  have K := K I66 hI66
                  refine zg_putI (k := 9) dX12_next_140 zc12 rfl (Nat.le_of_ble_eq_true rfl) (Nat.le_of_ble_eq_true rfl) u_815 rfl rfl ?_
                  exact K
            · have K := K.2 (zb_1 c57)
              refine zi_iconst (v := 2) dX12_next_103 (by decide) ?_
              refine zi_goto (tgt := 118) dX12_next_104 (by decide) ?_
              refine zi_name (fun I67 hI67 => ?_)
              have K := K I67 hI67
              refine zg_putI (k := 11) dX12_next_118 zc12 rfl (Nat.le_of_ble_eq_true rfl) (Nat.le_of_ble_eq_true rfl) u_817 rfl rfl ?_
              refine zi_aload_n dX12_next_121 rfl rfl ?_
              refine zi_dup dX12_next_122 rfl ?_
              refine zg_getI (k := 9) dX12_next_123 zc12 rfl (Nat.le_of_ble_eq_true rfl) (Nat.le_of_ble_eq_true rfl) u_815 rfl ?_
              refine zi_aload_n dX12_next_126 rfl rfl ?_
              refine zg_getI (k := 11) dX12_next_127 zc12 rfl (Nat.le_of_ble_eq_true rfl) (Nat.le_of_ble_eq_true rfl) u_817 rfl ?_
              refine zi_iconst (v := 3) dX12_next_130 (by decide) ?_
              refine zi_icmp_ne (tgt := 138) dX12_next_131 (by decide) (fun c68 => ?_) (fun c68 => ?_)
              · have K := K.1 c68
                refine zi_iconst (v := 0) dX12_next_138 (by decide) ?_
                refine zi_iadd dX12_next_139 ?_
                refine zi_name (fun I69 hI69 => ?_)
                have K := K I69 hI69
                refine zg_putI (k := 9) dX12_next_140 zc12 rfl (Nat.le_of_ble_eq_true rfl) (Nat.le_of_ble_eq_true rfl) u_815 rfl rfl ?_
                exact K
              · have K := K.2 c68
                refine zi_iconst (v := 1) dX12_next_134 (by decide) ?_
                refine zi_goto (tgt := 139) dX12_next_135 (by decide) ?_
                refine zi_iadd dX12_next_139 ?_
                refine zi_name (fun I70 hI70 => ?_)
                have K := K I70 hI70
                refine zg_putI (k := 9) dX12_next_140 zc12 rfl (Nat.le_of_ble_eq_true rfl) (Nat.le_of_ble_eq_true rfl) u_815 rfl rfl ?_
                exact K
          · have K := K.2 (zb_1 c56)
            refine zi_iconst (v := 1) dX12_next_92 (by decide) ?_
            refine zi_goto (tgt := 118) dX12_next_93 (by decide) ?_
            refine zi_name (fun I71 hI71 => ?_)
            have K := K I71 hI71
            refine zg_putI (k := 11) dX12_next_118 zc12 rfl (Nat.le_of_ble_eq_true rfl) (Nat.le_of_ble_eq_true rfl) u_817 rfl rfl ?_
            refine zi_aload_n dX12_next_121 rfl rfl ?_
            refine zi_dup dX12_next_122 rfl ?_
            refine zg_getI (k := 9) dX12_next_123 zc12 rfl (Nat.le_of_ble_eq_true rfl) (Nat.le_of_ble_eq_true rfl) u_815 rfl ?_
            refine zi_aload_n dX12_next_126 rfl rfl ?_
            refine zg_getI (k := 11) dX12_next_127 zc12 rfl (Nat.le_of_ble_eq_true rfl) (Nat.le_of_ble_eq_true rfl) u_817 rfl ?_
            refine zi_iconst (v := 3) dX12_next_130 (by decide) ?_
            refine zi_icmp_ne (tgt := 138) dX12_next_131 (by decide) (fun c72 => ?_) (fun c72 => ?_)
            · have K := K.1 c72
              refine zi_iconst (v := 0) dX12_next_138 (by decide) ?_
              refine zi_iadd dX12_next_139 ?_
              refine zi_name (fun I73 hI73 => ?_)
              have K := K I73 hI73
              refine zg_putI (k := 9) dX12_next_140 zc12 rfl (Nat.le_of_ble_eq_true rfl) (Nat.le_of_ble_eq_true rfl) u_815 rfl rfl ?_
              exact K
            · have K := K.2 c72
              refine zi_iconst (v := 1) dX12_next_134 (by decide) ?_
              refine zi_goto (tgt := 139) dX12_next_135 (by decide) ?_
              refine zi_iadd dX12_next_139 ?_
              refine zi_name (fun I74 hI74 => ?_)
              have K := K I74 hI74
              refine zg_putI (k := 9) dX12_next_140 zc12 rfl (Nat.le_of_ble_eq_true rfl) (Nat.le_of_ble_eq_true rfl) u_815 rfl rfl ?_
              exact K
        · have K := K.2 c55
          refine zi_iconst (v := 0) dX12_next_81 (by decide) ?_
          refine zi_goto (tgt := 118) dX12_next_82 (by decide) ?_
          refine zi_name (fun I75 hI75 => ?_)
          have K := K I75 hI75
          refine zg_putI (k := 11) dX12_next_118 zc12 rfl (Nat.le_of_ble_eq_true rfl) (Nat.le_of_ble_eq_true rfl) u_817 rfl rfl ?_
          refine zi_aload_n dX12_next_121 rfl rfl ?_
          refine zi_dup dX12_next_122 rfl ?_
          refine zg_getI (k := 9) dX12_next_123 zc12 rfl (Nat.le_of_ble_eq_true rfl) (Nat.le_of_ble_eq_true rfl) u_815 rfl ?_
          refine zi_aload_n dX12_next_126 rfl rfl ?_
          refine zg_getI (k := 11) dX12_next_127 zc12 rfl (Nat.le_of_ble_eq_true rfl) (Nat.le_of_ble_eq_true rfl) u_817 rfl ?_
          refine zi_iconst (v := 3) dX12_next_130 (by decide) ?_
          refine zi_icmp_ne (tgt := 138) dX12_next_131 (by decide) (fun c76 => ?_) (fun c76 => ?_)
          · have K := K.1 c76
            refine zi_iconst (v := 0) dX12_next_138 (by decide) ?_
            refine zi_iadd dX12_next_139 ?_
            refine zi_name (fun I77 hI77 => ?_)
            have K := K I77 hI77
            refine zg_putI (k := 9) dX12_next_140 zc12 rfl (Nat.le_of_ble_eq_true rfl) (Nat.le_of_ble_eq_true rfl) u_815 rfl rfl ?_
            exact K
          · have K := K.2 c76
            refine zi_iconst (v := 1) dX12_next_134 (by decide) ?_
            refine zi_goto (tgt := 139) dX12_next_135 (by decide) ?_
            refine zi_iadd dX12_next_139 ?_
            refine zi_name (fun I78 hI78 => ?_)
            have K := K I78 hI78
            refine zg_putI (k := 9) dX12_next_140 zc12 rfl (Nat.le_of_ble_eq_true rfl) (Nat.le_of_ble_eq_true rfl) u_815 rfl rfl ?_
            exact K
      · have K := K.2 c54
        refine zi_aload_n dX12_next_62 rfl rfl ?_
        refine zg_getF (k := 4) (v := .ref 61) dX12_next_63 zc12 rfl (Nat.le_of_ble_eq_true rfl) (Nat.le_of_ble_eq_true rfl) u_810 rfl (rfl) ?_
        refine zi_aload_n dX12_next_66 rfl rfl ?_
        refine zg_getI (k := 9) dX12_next_67 zc12 rfl (Nat.le_of_ble_eq_true rfl) (Nat.le_of_ble_eq_true rfl) u_815 rfl ?_
        have o79 := K.1
        have K := K.2
        refine zg_iaload dX12_next_70 (rfl) (Nat.le_of_ble_eq_true rfl) o79 ?_
        refine zi_goto (tgt := 75) dX12_next_71 (by decide) ?_
        refine zi_istore_n (ls' := [some (.ref 56), some (.int ((zup I 56 10 (I 56 9)) 61 (zx ((zup I 56 10 (I 56 9)) 56 9))))]) dX12_next_75 rfl (by decide) rfl ?_
        refine zi_aload_n dX12_next_76 rfl rfl ?_
        refine zi_iload_n dX12_next_77 rfl rfl ?_
        refine zi_if_ge (tgt := 85) dX12_next_78 (by decide) (fun c80 => ?_) (fun c80 => ?_)
        · have K := K.1 c80
          refine zi_iload_n dX12_next_85 rfl rfl ?_
          refine zi_callS (N := mX12_isLetter) (av := [.int ((zup I 56 10 (I 56 9)) 61 (zx ((zup I 56 10 (I 56 9)) 56 9)))]) (st := [.ref 56]) (R1 := (some (.int (zb (96 < ((zup I 56 10 (I 56 9)) 61 (zx ((zup I 56 10 (I 56 9)) 56 9))) ∧ ((zup I 56 10 (I 56 9)) 61 (zx ((zup I 56 10 (I 56 9)) 56 9))) < 123))), zh b (zup I 56 10 (I 56 9)) (zupL L 56 12 0))) dX12_next_86 okX12_isLetter u_956 u_957 arX12_isLetter rfl (Nat.le_of_ble_eq_true rfl) (kX12_isLetter _) hR ?_
          show zA G (d + 1) mX12_next 89 [some (.ref 56), some (.int ((zup I 56 10 (I 56 9)) 61 (zx ((zup I 56 10 (I 56 9)) 56 9))))] [.int (zb (96 < ((zup I 56 10 (I 56 9)) 61 (zx ((zup I 56 10 (I 56 9)) 56 9))) ∧ ((zup I 56 10 (I 56 9)) 61 (zx ((zup I 56 10 (I 56 9)) 56 9))) < 123)), .ref 56] (zh b (zup I 56 10 (I 56 9)) (zupL L 56 12 0)) R
          refine zi_if_eq (tgt := 96) dX12_next_89 (by decide) (fun c81 => ?_) (fun c81 => ?_)
          · have K := K.1 (zb_0 c81)
            refine zi_iload_n dX12_next_96 rfl rfl ?_
            refine zi_callS (N := mX12_isFigure) (av := [.int ((zup I 56 10 (I 56 9)) 61 (zx ((zup I 56 10 (I 56 9)) 56 9)))]) (st := [.ref 56]) (R1 := (some (.int (zb (47 < ((zup I 56 10 (I 56 9)) 61 (zx ((zup I 56 10 (I 56 9)) 56 9))) ∧ ((zup I 56 10 (I 56 9)) 61 (zx ((zup I 56 10 (I 56 9)) 56 9))) < 58))), zh b (zup I 56 10 (I 56 9)) (zupL L 56 12 0))) dX12_next_97 okX12_isFigure u_959 u_960 arX12_isFigure rfl (Nat.le_of_ble_eq_true rfl) (kX12_isFigure _) hR ?_
            show zA G (d + 1) mX12_next 100 [some (.ref 56), some (.int ((zup I 56 10 (I 56 9)) 61 (zx ((zup I 56 10 (I 56 9)) 56 9))))] [.int (zb (47 < ((zup I 56 10 (I 56 9)) 61 (zx ((zup I 56 10 (I 56 9)) 56 9))) ∧ ((zup I 56 10 (I 56 9)) 61 (zx ((zup I 56 10 (I 56 9)) 56 9))) < 58)), .ref 56] (zh b (zup I 56 10 (I 56 9)) (zupL L 56 12 0)) R
            refine zi_if_eq (tgt := 107) dX12_next_100 (by decide) (fun c82 => ?_) (fun c82 => ?_)
            · have K := K.1 (zb_0 c82)
              refine zi_iload_n dX12_next_107 rfl rfl ?_
              refine zi_bipush (v := 59) dX12_next_108 (by decide) ?_
              refine zi_icmp_ne (tgt := 117) dX12_next_110 (by decide) (fun c83 => ?_) (fun c83 => ?_)
              · have K := K.1 c83
                refine zi_iconst (v := 4) dX12_next_117 (by decide) ?_
                refine zi_name (fun I84 hI84 => ?_)
                have K := K I84 hI84
                refine zg_putI (k := 11) dX12_next_118 zc12 rfl (Nat.le_of_ble_eq_true rfl) (Nat.le_of_ble_eq_true rfl) u_817 rfl rfl ?_
                refine zi_aload_n dX12_next_121 rfl rfl ?_
                refine zi_dup dX12_next_122 rfl ?_
                refine zg_getI (k := 9) dX12_next_123 zc12 rfl (Nat.le_of_ble_eq_true rfl) (Nat.le_of_ble_eq_true rfl) u_815 rfl ?_
                refine zi_aload_n dX12_next_126 rfl rfl ?_
                refine zg_getI (k := 11) dX12_next_127 zc12 rfl (Nat.le_of_ble_eq_true rfl) (Nat.le_of_ble_eq_true rfl) u_817 rfl ?_
                refine zi_iconst (v := 3) dX12_next_130 (by decide) ?_
                refine zi_icmp_ne (tgt := 138) dX12_next_131 (by decide) (fun c85 => ?_) (fun c85 => ?_)
                · have K := K.1 c85
                  refine zi_iconst (v := 0) dX12_next_138 (by decide) ?_
                  refine zi_iadd dX12_next_139 ?_
                  refine zi_name (fun I86 hI86 => ?_)
                  have K := K I86 hI86
                  refine zg_putI (k := 9) dX12_next_140 zc12 rfl (Nat.le_of_ble_eq_true rfl) (Nat.le_of_ble_eq_true rfl) u_815 rfl rfl ?_
                  exact K
                · have K := K.2 c85
                  refine zi_iconst (v := 1) dX12_next_134 (by decide) ?_
                  refine zi_goto (tgt := 139) dX12_next_135 (by decide) ?_
                  refine zi_iadd dX12_next_139 ?_
                  refine zi_name (fun I87 hI87 => ?_)
                  have K := K I87 hI87
                  refine zg_putI (k := 9) dX12_next_140 zc12 rfl (Nat.le_of_ble_eq_true rfl) (Nat.le_of_ble_eq_true rfl) u_815 rfl rfl ?_
                  exact K
              · have K := K.2 c83
                refine zi_iconst (v := 3) dX12_next_113 (by decide) ?_
                refine zi_goto (tgt := 118) dX12_next_114 (by decide) ?_
                refine zi_name (fun I88 hI88 => ?_)
                have K := K I88 hI88
                refine zg_putI (k := 11) dX12_next_118 zc12 rfl (Nat.le_of_ble_eq_true rfl) (Nat.le_of_ble_eq_true rfl) u_817 rfl rfl ?_
                refine zi_aload_n dX12_next_121 rfl rfl ?_
                refine zi_dup dX12_next_122 rfl ?_
                refine zg_getI (k := 9) dX12_next_123 zc12 rfl (Nat.le_of_ble_eq_true rfl) (Nat.le_of_ble_eq_true rfl) u_815 rfl ?_
                refine zi_aload_n dX12_next_126 rfl rfl ?_
                refine zg_getI (k := 11) dX12_next_127 zc12 rfl (Nat.le_of_ble_eq_true rfl) (Nat.le_of_ble_eq_true rfl) u_817 rfl ?_
                refine zi_iconst (v := 3) dX12_next_130 (by decide) ?_
                refine zi_icmp_ne (tgt := 138) dX12_next_131 (by decide) (fun c89 => ?_) (fun c89 => ?_)
                · have K := K.1 c89
                  refine zi_iconst (v := 0) dX12_next_138 (by decide) ?_
                  refine zi_iadd dX12_next_139 ?_
                  refine zi_name (fun I90 hI90 => ?_)
                  have K := K I90 hI90
                  refine zg_putI (k := 9) dX12_next_140 zc12 rfl (Nat.le_of_ble_eq_true rfl) (Nat.le_of_ble_eq_true rfl) u_815 rfl rfl ?_
                  exact K
                · have K := K.2 c89
                  refine zi_iconst (v := 1) dX12_next_134 (by decide) ?_
                  refine zi_goto (tgt := 139) dX12_next_135 (by decide) ?_
                  refine zi_iadd dX12_next_139 ?_
                  refine zi_name (fun I91 hI91 => ?_)
                  have K := K I91 hI91
                  refine zg_putI (k := 9) dX12_next_140 zc12 rfl (Nat.le_of_ble_eq_true rfl) (Nat.le_of_ble_eq_true rfl) u_815 rfl rfl ?_
                  exact K
            · have K := K.2 (zb_1 c82)
              refine zi_iconst (v := 2) dX12_next_103 (by decide) ?_
              refine zi_goto (tgt := 118) dX12_next_104 (by decide) ?_
              refine zi_name (fun I92 hI92 => ?_)
              have K := K I92 hI92
              refine zg_putI (k := 11) dX12_next_118 zc12 rfl (Nat.le_of_ble_eq_true rfl) (Nat.le_of_ble_eq_true rfl) u_817 rfl rfl ?_
              refine zi_aload_n dX12_next_121 rfl rfl ?_
              refine zi_dup dX12_next_122 rfl ?_
              refine zg_getI (k := 9) dX12_next_123 zc12 rfl (Nat.le_of_ble_eq_true rfl) (Nat.le_of_ble_eq_true rfl) u_815 rfl ?_
              refine zi_aload_n dX12_next_126 rfl rfl ?_
              refine zg_getI (k := 11) dX12_next_127 zc12 rfl (Nat.le_of_ble_eq_true rfl) (Nat.le_of_ble_eq_true rfl) u_817 rfl ?_
              refine zi_iconst (v := 3) dX12_next_130 (by decide) ?_
              refine zi_icmp_ne (tgt := 138) dX12_next_131 (by decide) (fun c93 => ?_) (fun c93 => ?_)
              · have K := K.1 c93
                refine zi_iconst (v := 0) dX12_next_138 (by decide) ?_
                refine zi_iadd dX12_next_139 ?_
                refine zi_name (fun I94 hI94 => ?_)
                have K := K I94 hI94
                refine zg_putI (k := 9) dX12_next_140 zc12 rfl (Nat.le_of_ble_eq_true rfl) (Nat.le_of_ble_eq_true rfl) u_815 rfl rfl ?_
                exact K
              · have K := K.2 c93
                refine zi_iconst (v := 1) dX12_next_134 (by decide) ?_
                refine zi_goto (tgt := 139) dX12_next_135 (by decide) ?_
                refine zi_iadd dX12_next_139 ?_
                refine zi_name (fun I95 hI95 => ?_)
                have K := K I95 hI95
                refine zg_putI (k := 9) dX12_next_140 zc12 rfl (Nat.le_of_ble_eq_true rfl) (Nat.le_of_ble_eq_true rfl) u_815 rfl rfl ?_
                exact K
          · have K := K.2 (zb_1 c81)
            refine zi_iconst (v := 1) dX12_next_92 (by decide) ?_
            refine zi_goto (tgt := 118) dX12_next_93 (by decide) ?_
            refine zi_name (fun I96 hI96 => ?_)
            have K := K I96 hI96
            refine zg_putI (k := 11) dX12_next_118 zc12 rfl (Nat.le_of_ble_eq_true rfl) (Nat.le_of_ble_eq_true rfl) u_817 rfl rfl ?_
            refine zi_aload_n dX12_next_121 rfl rfl ?_
            refine zi_dup dX12_next_122 rfl ?_
            refine zg_getI (k := 9) dX12_next_123 zc12 rfl (Nat.le_of_ble_eq_true rfl) (Nat.le_of_ble_eq_true rfl) u_815 rfl ?_
            refine zi_aload_n dX12_next_126 rfl rfl ?_
            refine zg_getI (k := 11) dX12_next_127 zc12 rfl (Nat.le_of_ble_eq_true rfl) (Nat.le_of_ble_eq_true rfl) u_817 rfl ?_
            refine zi_iconst (v := 3) dX12_next_130 (by decide) ?_
            refine zi_icmp_ne (tgt := 138) dX12_next_131 (by decide) (fun c97 => ?_) (fun c97 => ?_)
            · have K := K.1 c97
              refine zi_iconst (v := 0) dX12_next_138 (by decide) ?_
              refine zi_iadd dX12_next_139 ?_
              refine zi_name (fun I98 hI98 => ?_)
              have K := K I98 hI98
              refine zg_putI (k := 9) dX12_next_140 zc12 rfl (Nat.le_of_ble_eq_true rfl) (Nat.le_of_ble_eq_true rfl) u_815 rfl rfl ?_
              exact K
            · have K := K.2 c97
              refine zi_iconst (v := 1) dX12_next_134 (by decide) ?_
              refine zi_goto (tgt := 139) dX12_next_135 (by decide) ?_
              refine zi_iadd dX12_next_139 ?_
              refine zi_name (fun I99 hI99 => ?_)
              have K := K I99 hI99
              refine zg_putI (k := 9) dX12_next_140 zc12 rfl (Nat.le_of_ble_eq_true rfl) (Nat.le_of_ble_eq_true rfl) u_815 rfl rfl ?_
              exact K
        · have K := K.2 c80
          refine zi_iconst (v := 0) dX12_next_81 (by decide) ?_
          refine zi_goto (tgt := 118) dX12_next_82 (by decide) ?_
          refine zi_name (fun I100 hI100 => ?_)
          have K := K I100 hI100
          refine zg_putI (k := 11) dX12_next_118 zc12 rfl (Nat.le_of_ble_eq_true rfl) (Nat.le_of_ble_eq_true rfl) u_817 rfl rfl ?_
          refine zi_aload_n dX12_next_121 rfl rfl ?_
          refine zi_dup dX12_next_122 rfl ?_
          refine zg_getI (k := 9) dX12_next_123 zc12 rfl (Nat.le_of_ble_eq_true rfl) (Nat.le_of_ble_eq_true rfl) u_815 rfl ?_
          refine zi_aload_n dX12_next_126 rfl rfl ?_
          refine zg_getI (k := 11) dX12_next_127 zc12 rfl (Nat.le_of_ble_eq_true rfl) (Nat.le_of_ble_eq_true rfl) u_817 rfl ?_
          refine zi_iconst (v := 3) dX12_next_130 (by decide) ?_
          refine zi_icmp_ne (tgt := 138) dX12_next_131 (by decide) (fun c101 => ?_) (fun c101 => ?_)
          · have K := K.1 c101
            refine zi_iconst (v := 0) dX12_next_138 (by decide) ?_
            refine zi_iadd dX12_next_139 ?_
            refine zi_name (fun I102 hI102 => ?_)
            have K := K I102 hI102
            refine zg_putI (k := 9) dX12_next_140 zc12 rfl (Nat.le_of_ble_eq_true rfl) (Nat.le_of_ble_eq_true rfl) u_815 rfl rfl ?_
            exact K
          · have K := K.2 c101
            refine zi_iconst (v := 1) dX12_next_134 (by decide) ?_
            refine zi_goto (tgt := 139) dX12_next_135 (by decide) ?_
            refine zi_iadd dX12_next_139 ?_
            refine zi_name (fun I103 hI103 => ?_)
            have K := K I103 hI103
            refine zg_putI (k := 9) dX12_next_140 zc12 rfl (Nat.le_of_ble_eq_true rfl) (Nat.le_of_ble_eq_true rfl) u_815 rfl rfl ?_
            exact K
    · have K := K.2 c53
      refine zi_aload_n dX12_next_25 rfl rfl ?_
      refine zi_dup dX12_next_26 rfl ?_
      refine zg_getI (k := 9) dX12_next_27 zc12 rfl (Nat.le_of_ble_eq_true rfl) (Nat.le_of_ble_eq_true rfl) u_815 rfl ?_
      refine zi_iconst (v := 1) dX12_next_30 (by decide) ?_
      refine zi_iadd dX12_next_31 ?_
      refine zg_putI (k := 9) dX12_next_32 zc12 rfl (Nat.le_of_ble_eq_true rfl) (Nat.le_of_ble_eq_true rfl) u_815 rfl rfl ?_
      refine zi_goto (tgt := 0) dX12_next_35 (by decide) ?_
      exact K
set_option maxRecDepth 100000 in
theorem tX12_next_143 {G : zG} {d b : Nat} {I : Nat → Nat → Int32} {L : Nat → Nat → Int64} {R : zR} {x1 : Int32} (hR : zR0 R)
    (K : ((¬ (I 56 11) = 1 → zA G (d + 1) mX12_next 237 [some (.ref 56), some (.int x1)] [] (zh b I L) R) ∧ ((I 56 11) = 1 → (((I 56 5) ≤ (I 56 9) → zA G (d + 1) mX12_next 237 [some (.ref 56), some (.int x1)] [] (zh b I L) R) ∧ (¬ (I 56 5) ≤ (I 56 9) → (vp_in (I 56 9) 250 ∧ ((¬ (96 < (I 61 (zx (I 56 9))) ∧ (I 61 (zx (I 56 9))) < 123) → zA G (d + 1) mX12_next 237 [some (.ref 56), some (.int x1)] [] (zh b I L) R) ∧ ((96 < (I 61 (zx (I 56 9))) ∧ (I 61 (zx (I 56 9))) < 123) → ((7 ≤ ((I 56 9) - (I 56 10)) → zA G (d + 1) mX12_next 143 [some (.ref 56), some (.int x1)] [] (zh b (zup I 56 9 ((I 56 9) + 1)) (zupL L 56 12 (-1))) R) ∧ (¬ 7 ≤ ((I 56 9) - (I 56 10)) → (vp_in (I 56 9) 250 ∧ zA G (d + 1) mX12_next 143 [some (.ref 56), some (.int x1)] [] (zh b (zup I 56 9 ((I 56 9) + 1)) (zupL L 56 12 (((32 * (L 56 12)) + ((I 61 (zx (I 56 9))).toInt64)) - 96))) R))))))))))) :
    zA G (d + 1) mX12_next 143 [some (.ref 56), some (.int x1)] [] (zh b I L) R := by
  refine zi_aload_n dX12_next_143 rfl rfl ?_
  refine zg_getI (k := 11) dX12_next_144 zc12 rfl (Nat.le_of_ble_eq_true rfl) (Nat.le_of_ble_eq_true rfl) u_817 rfl ?_
  refine zi_iconst (v := 1) dX12_next_147 (by decide) ?_
  refine zi_icmp_ne (tgt := 237) dX12_next_148 (by decide) (fun c1 => ?_) (fun c1 => ?_)
  · have K := K.1 c1
    exact K
  · have K := K.2 c1
    refine zi_aload_n dX12_next_151 rfl rfl ?_
    refine zg_getI (k := 9) dX12_next_152 zc12 rfl (Nat.le_of_ble_eq_true rfl) (Nat.le_of_ble_eq_true rfl) u_815 rfl ?_
    refine zi_aload_n dX12_next_155 rfl rfl ?_
    refine zg_getI (k := 5) dX12_next_156 zc12 rfl (Nat.le_of_ble_eq_true rfl) (Nat.le_of_ble_eq_true rfl) u_811 rfl ?_
    refine zi_icmp_ge (tgt := 237) dX12_next_159 (by decide) (fun c2 => ?_) (fun c2 => ?_)
    · have K := K.1 c2
      exact K
    · have K := K.2 c2
      refine zi_aload_n dX12_next_162 rfl rfl ?_
      refine zg_getF (k := 4) (v := .ref 61) dX12_next_163 zc12 rfl (Nat.le_of_ble_eq_true rfl) (Nat.le_of_ble_eq_true rfl) u_810 rfl (rfl) ?_
      refine zi_aload_n dX12_next_166 rfl rfl ?_
      refine zg_getI (k := 9) dX12_next_167 zc12 rfl (Nat.le_of_ble_eq_true rfl) (Nat.le_of_ble_eq_true rfl) u_815 rfl ?_
      have o3 := K.1
      have K := K.2
      refine zg_iaload dX12_next_170 (rfl) (Nat.le_of_ble_eq_true rfl) o3 ?_
      refine zi_callS (N := mX12_isLetter) (av := [.int (I 61 (zx (I 56 9)))]) (st := []) (R1 := (some (.int (zb (96 < (I 61 (zx (I 56 9))) ∧ (I 61 (zx (I 56 9))) < 123))), zh b I L)) dX12_next_171 okX12_isLetter u_956 u_957 arX12_isLetter rfl (Nat.le_of_ble_eq_true rfl) (kX12_isLetter _) hR ?_
      show zA G (d + 1) mX12_next 174 [some (.ref 56), some (.int x1)] [.int (zb (96 < (I 61 (zx (I 56 9))) ∧ (I 61 (zx (I 56 9))) < 123))] (zh b I L) R
      refine zi_if_eq (tgt := 237) dX12_next_174 (by decide) (fun c4 => ?_) (fun c4 => ?_)
      · have K := K.1 (zb_0 c4)
        exact K
      · have K := K.2 (zb_1 c4)
        refine zi_aload_n dX12_next_177 rfl rfl ?_
        refine zi_aload_n dX12_next_178 rfl rfl ?_
        refine zg_getI (k := 9) dX12_next_179 zc12 rfl (Nat.le_of_ble_eq_true rfl) (Nat.le_of_ble_eq_true rfl) u_815 rfl ?_
        refine zi_aload_n dX12_next_182 rfl rfl ?_
        refine zg_getI (k := 10) dX12_next_183 zc12 rfl (Nat.le_of_ble_eq_true rfl) (Nat.le_of_ble_eq_true rfl) u_816 rfl ?_
        refine zi_isub dX12_next_186 ?_
        refine zi_bipush (v := 7) dX12_next_187 (by decide) ?_
        refine zi_icmp_ge (tgt := 218) dX12_next_189 (by decide) (fun c5 => ?_) (fun c5 => ?_)
        · have K := K.1 c5
          refine zi_ldc2 dX12_next_218 u_964 ?_
          refine zg_putL (k := 12) dX12_next_221 zc12 rfl (Nat.le_of_ble_eq_true rfl) (Nat.le_of_ble_eq_true rfl) u_818 rfl rfl ?_
          refine zi_aload_n dX12_next_224 rfl rfl ?_
          refine zi_dup dX12_next_225 rfl ?_
          refine zg_getI (k := 9) dX12_next_226 zc12 rfl (Nat.le_of_ble_eq_true rfl) (Nat.le_of_ble_eq_true rfl) u_815 rfl ?_
          refine zi_iconst (v := 1) dX12_next_229 (by decide) ?_
          refine zi_iadd dX12_next_230 ?_
          refine zg_putI (k := 9) dX12_next_231 zc12 rfl (Nat.le_of_ble_eq_true rfl) (Nat.le_of_ble_eq_true rfl) u_815 rfl rfl ?_
          refine zi_goto (tgt := 143) dX12_next_234 (by decide) ?_
          exact K
        · have K := K.2 c5
          refine zi_ldc2 dX12_next_192 u_962 ?_
          refine zi_aload_n dX12_next_195 rfl rfl ?_
          refine zg_getL (k := 12) dX12_next_196 zc12 rfl (Nat.le_of_ble_eq_true rfl) (Nat.le_of_ble_eq_true rfl) u_818 rfl ?_
          refine zi_lmul dX12_next_199 ?_
          refine zi_aload_n dX12_next_200 rfl rfl ?_
          refine zg_getF (k := 4) (v := .ref 61) dX12_next_201 zc12 rfl (Nat.le_of_ble_eq_true rfl) (Nat.le_of_ble_eq_true rfl) u_810 rfl (rfl) ?_
          refine zi_aload_n dX12_next_204 rfl rfl ?_
          refine zg_getI (k := 9) dX12_next_205 zc12 rfl (Nat.le_of_ble_eq_true rfl) (Nat.le_of_ble_eq_true rfl) u_815 rfl ?_
          have o6 := K.1
          have K := K.2
          refine zg_iaload dX12_next_208 (rfl) (Nat.le_of_ble_eq_true rfl) o6 ?_
          refine zi_i2l dX12_next_209 ?_
          refine zi_ladd dX12_next_210 ?_
          refine zi_ldc2 dX12_next_211 u_963 ?_
          refine zi_lsub dX12_next_214 ?_
          refine zi_goto (tgt := 221) dX12_next_215 (by decide) ?_
          refine zg_putL (k := 12) dX12_next_221 zc12 rfl (Nat.le_of_ble_eq_true rfl) (Nat.le_of_ble_eq_true rfl) u_818 rfl rfl ?_
          refine zi_aload_n dX12_next_224 rfl rfl ?_
          refine zi_dup dX12_next_225 rfl ?_
          refine zg_getI (k := 9) dX12_next_226 zc12 rfl (Nat.le_of_ble_eq_true rfl) (Nat.le_of_ble_eq_true rfl) u_815 rfl ?_
          refine zi_iconst (v := 1) dX12_next_229 (by decide) ?_
          refine zi_iadd dX12_next_230 ?_
          refine zg_putI (k := 9) dX12_next_231 zc12 rfl (Nat.le_of_ble_eq_true rfl) (Nat.le_of_ble_eq_true rfl) u_815 rfl rfl ?_
          refine zi_goto (tgt := 143) dX12_next_234 (by decide) ?_
          exact K
set_option maxRecDepth 100000 in
theorem tX12_next_237 {G : zG} {d b : Nat} {I : Nat → Nat → Int32} {L : Nat → Nat → Int64} {R : zR} {x1 : Int32} (hR : zR0 R)
    (K : ((¬ (I 56 11) = 2 → R = (none, zh b I L)) ∧ ((I 56 11) = 2 → (((I 56 5) ≤ (I 56 9) → R = (none, zh b I L)) ∧ (¬ (I 56 5) ≤ (I 56 9) → (vp_in (I 56 9) 250 ∧ ((¬ (47 < (I 61 (zx (I 56 9))) ∧ (I 61 (zx (I 56 9))) < 58) → R = (none, zh b I L)) ∧ ((47 < (I 61 (zx (I 56 9))) ∧ (I 61 (zx (I 56 9))) < 58) → ((2 ≤ ((I 56 9) - (I 56 10)) → zA G (d + 1) mX12_next 237 [some (.ref 56), some (.int x1)] [] (zh b (zup I 56 9 ((I 56 9) + 1)) (zupL L 56 12 100000)) R) ∧ (¬ 2 ≤ ((I 56 9) - (I 56 10)) → (vp_in (I 56 9) 250 ∧ zA G (d + 1) mX12_next 237 [some (.ref 56), some (.int x1)] [] (zh b (zup I 56 9 ((I 56 9) + 1)) (zupL L 56 12 (((10 * (L 56 12)) + ((I 61 (zx (I 56 9))).toInt64)) - 48))) R))))))))))) :
    zA G (d + 1) mX12_next 237 [some (.ref 56), some (.int x1)] [] (zh b I L) R := by
  refine zi_aload_n dX12_next_237 rfl rfl ?_
  refine zg_getI (k := 11) dX12_next_238 zc12 rfl (Nat.le_of_ble_eq_true rfl) (Nat.le_of_ble_eq_true rfl) u_817 rfl ?_
  refine zi_iconst (v := 2) dX12_next_241 (by decide) ?_
  refine zi_icmp_ne (tgt := 330) dX12_next_242 (by decide) (fun c1 => ?_) (fun c1 => ?_)
  · have K := K.1 c1
    subst K
    exact zi_return dX12_next_330 rfl
  · have K := K.2 c1
    refine zi_aload_n dX12_next_245 rfl rfl ?_
    refine zg_getI (k := 9) dX12_next_246 zc12 rfl (Nat.le_of_ble_eq_true rfl) (Nat.le_of_ble_eq_true rfl) u_815 rfl ?_
    refine zi_aload_n dX12_next_249 rfl rfl ?_
    refine zg_getI (k := 5) dX12_next_250 zc12 rfl (Nat.le_of_ble_eq_true rfl) (Nat.le_of_ble_eq_true rfl) u_811 rfl ?_
    refine zi_icmp_ge (tgt := 330) dX12_next_253 (by decide) (fun c2 => ?_) (fun c2 => ?_)
    · have K := K.1 c2
      subst K
      exact zi_return dX12_next_330 rfl
    · have K := K.2 c2
      refine zi_aload_n dX12_next_256 rfl rfl ?_
      refine zg_getF (k := 4) (v := .ref 61) dX12_next_257 zc12 rfl (Nat.le_of_ble_eq_true rfl) (Nat.le_of_ble_eq_true rfl) u_810 rfl (rfl) ?_
      refine zi_aload_n dX12_next_260 rfl rfl ?_
      refine zg_getI (k := 9) dX12_next_261 zc12 rfl (Nat.le_of_ble_eq_true rfl) (Nat.le_of_ble_eq_true rfl) u_815 rfl ?_
      have o3 := K.1
      have K := K.2
      refine zg_iaload dX12_next_264 (rfl) (Nat.le_of_ble_eq_true rfl) o3 ?_
      refine zi_callS (N := mX12_isFigure) (av := [.int (I 61 (zx (I 56 9)))]) (st := []) (R1 := (some (.int (zb (47 < (I 61 (zx (I 56 9))) ∧ (I 61 (zx (I 56 9))) < 58))), zh b I L)) dX12_next_265 okX12_isFigure u_959 u_960 arX12_isFigure rfl (Nat.le_of_ble_eq_true rfl) (kX12_isFigure _) hR ?_
      show zA G (d + 1) mX12_next 268 [some (.ref 56), some (.int x1)] [.int (zb (47 < (I 61 (zx (I 56 9))) ∧ (I 61 (zx (I 56 9))) < 58))] (zh b I L) R
      refine zi_if_eq (tgt := 330) dX12_next_268 (by decide) (fun c4 => ?_) (fun c4 => ?_)
      · have K := K.1 (zb_0 c4)
        subst K
        exact zi_return dX12_next_330 rfl
      · have K := K.2 (zb_1 c4)
        refine zi_aload_n dX12_next_271 rfl rfl ?_
        refine zi_aload_n dX12_next_272 rfl rfl ?_
        refine zg_getI (k := 9) dX12_next_273 zc12 rfl (Nat.le_of_ble_eq_true rfl) (Nat.le_of_ble_eq_true rfl) u_815 rfl ?_
        refine zi_aload_n dX12_next_276 rfl rfl ?_
        refine zg_getI (k := 10) dX12_next_277 zc12 rfl (Nat.le_of_ble_eq_true rfl) (Nat.le_of_ble_eq_true rfl) u_816 rfl ?_
        refine zi_isub dX12_next_280 ?_
        refine zi_iconst (v := 2) dX12_next_281 (by decide) ?_
        refine zi_icmp_ge (tgt := 311) dX12_next_282 (by decide) (fun c5 => ?_) (fun c5 => ?_)
        · have K := K.1 c5
          refine zi_ldc2 dX12_next_311 u_967 ?_
          refine zg_putL (k := 12) dX12_next_314 zc12 rfl (Nat.le_of_ble_eq_true rfl) (Nat.le_of_ble_eq_true rfl) u_818 rfl rfl ?_
          refine zi_aload_n dX12_next_317 rfl rfl ?_
          refine zi_dup dX12_next_318 rfl ?_
          refine zg_getI (k := 9) dX12_next_319 zc12 rfl (Nat.le_of_ble_eq_true rfl) (Nat.le_of_ble_eq_true rfl) u_815 rfl ?_
          refine zi_iconst (v := 1) dX12_next_322 (by decide) ?_
          refine zi_iadd dX12_next_323 ?_
          refine zg_putI (k := 9) dX12_next_324 zc12 rfl (Nat.le_of_ble_eq_true rfl) (Nat.le_of_ble_eq_true rfl) u_815 rfl rfl ?_
          refine zi_goto (tgt := 237) dX12_next_327 (by decide) ?_
          exact K
        · have K := K.2 c5
          refine zi_ldc2 dX12_next_285 u_965 ?_
          refine zi_aload_n dX12_next_288 rfl rfl ?_
          refine zg_getL (k := 12) dX12_next_289 zc12 rfl (Nat.le_of_ble_eq_true rfl) (Nat.le_of_ble_eq_true rfl) u_818 rfl ?_
          refine zi_lmul dX12_next_292 ?_
          refine zi_aload_n dX12_next_293 rfl rfl ?_
          refine zg_getF (k := 4) (v := .ref 61) dX12_next_294 zc12 rfl (Nat.le_of_ble_eq_true rfl) (Nat.le_of_ble_eq_true rfl) u_810 rfl (rfl) ?_
          refine zi_aload_n dX12_next_297 rfl rfl ?_
          refine zg_getI (k := 9) dX12_next_298 zc12 rfl (Nat.le_of_ble_eq_true rfl) (Nat.le_of_ble_eq_true rfl) u_815 rfl ?_
          have o6 := K.1
          have K := K.2
          refine zg_iaload dX12_next_301 (rfl) (Nat.le_of_ble_eq_true rfl) o6 ?_
          refine zi_i2l dX12_next_302 ?_
          refine zi_ladd dX12_next_303 ?_
          refine zi_ldc2 dX12_next_304 u_966 ?_
          refine zi_lsub dX12_next_307 ?_
          refine zi_goto (tgt := 314) dX12_next_308 (by decide) ?_
          refine zg_putL (k := 12) dX12_next_314 zc12 rfl (Nat.le_of_ble_eq_true rfl) (Nat.le_of_ble_eq_true rfl) u_818 rfl rfl ?_
          refine zi_aload_n dX12_next_317 rfl rfl ?_
          refine zi_dup dX12_next_318 rfl ?_
          refine zg_getI (k := 9) dX12_next_319 zc12 rfl (Nat.le_of_ble_eq_true rfl) (Nat.le_of_ble_eq_true rfl) u_815 rfl ?_
          refine zi_iconst (v := 1) dX12_next_322 (by decide) ?_
          refine zi_iadd dX12_next_323 ?_
          refine zg_putI (k := 9) dX12_next_324 zc12 rfl (Nat.le_of_ble_eq_true rfl) (Nat.le_of_ble_eq_true rfl) u_815 rfl rfl ?_
          refine zi_goto (tgt := 237) dX12_next_327 (by decide) ?_
          exact K
set_option maxRecDepth 100000 in
theorem tX12_takes_0 {G : zG} {d b : Nat} {I : Nat → Nat → Int32} {L : Nat → Nat → Int64} {R : zR} {x1 : Int32} {x2 : Int32} (hR : zR0 R)
    (K : (∃ (I1 : Nat → Nat → Int32) (L2 : Nat → Nat → Int64), zCall (d + 1) mX12_next [.ref 56] (zh b I L) (none, zh b I1 L2) ∧ ((¬ (I1 56 11) = 2 → R = (some (.int 0), zh b I1 L2)) ∧ ((I1 56 11) = 2 → ((¬ (x1.toInt64 ≤ (L2 56 12) ∧ (L2 56 12) ≤ x2.toInt64) → R = (some (.int 0), zh b I1 L2)) ∧ ((x1.toInt64 ≤ (L2 56 12) ∧ (L2 56 12) ≤ x2.toInt64) → R = (some (.int 1), zh b I1 L2))))))) :
    zA G (d + 2) mX12_takes 0 [some (.ref 56), some (.int x1), some (.int x2)] [] (zh b I L) R := by
  refine zi_aload_n dX12_takes_0 rfl rfl ?_
  obtain ⟨I1, L2, h3, K⟩ := K
  refine zi_callV (N := mX12_next) (av := []) (st := []) (R1 := (none, zh b I1 L2)) dX12_takes_1 okX12_next u_952 u_954 s_28 zc12 (rfl) (Nat.le_of_ble_eq_true rfl) arX12_next rfl (Nat.le_of_ble_eq_true rfl) (h3) hR ?_
  show zA G (d + 2) mX12_takes 4 [some (.ref 56), some (.int x1), some (.int x2)] [] (zh b I1 L2) R
  refine zi_aload_n dX12_takes_4 rfl rfl ?_
  refine zg_getI (k := 11) dX12_takes_5 zc12 rfl (Nat.le_of_ble_eq_true rfl) (Nat.le_of_ble_eq_true rfl) u_817 rfl ?_
  refine zi_iconst (v := 2) dX12_takes_8 (by decide) ?_
  refine zi_icmp_ne (tgt := 30) dX12_takes_9 (by decide) (fun c4 => ?_) (fun c4 => ?_)
  · have K := K.1 c4
    refine zi_iconst (v := 0) dX12_takes_30 (by decide) ?_
    subst K
    exact zi_ireturn dX12_takes_31 rfl (by decide)
  · have K := K.2 c4
    refine zi_aload_n dX12_takes_12 rfl rfl ?_
    refine zg_getL (k := 12) dX12_takes_13 zc12 rfl (Nat.le_of_ble_eq_true rfl) (Nat.le_of_ble_eq_true rfl) u_818 rfl ?_
    refine zi_iload_n dX12_takes_16 rfl rfl ?_
    refine zi_i2l dX12_takes_17 ?_
    refine zi_iload_n dX12_takes_18 rfl rfl ?_
    refine zi_i2l dX12_takes_19 ?_
    refine zi_callS (N := mX12_in) (av := [.long (L2 56 12), .long x1.toInt64, .long x2.toInt64]) (st := []) (R1 := (some (.int (zb (x1.toInt64 ≤ (L2 56 12) ∧ (L2 56 12) ≤ x2.toInt64))), zh b I1 L2)) dX12_takes_20 okX12_in u_803 u_804 arX12_in rfl (Nat.le_of_ble_eq_true rfl) (kX12_in _ _ _) hR ?_
    show zA G (d + 2) mX12_takes 23 [some (.ref 56), some (.int x1), some (.int x2)] [.int (zb (x1.toInt64 ≤ (L2 56 12) ∧ (L2 56 12) ≤ x2.toInt64))] (zh b I1 L2) R
    refine zi_if_eq (tgt := 30) dX12_takes_23 (by decide) (fun c5 => ?_) (fun c5 => ?_)
    · have K := K.1 (zb_0 c5)
      refine zi_iconst (v := 0) dX12_takes_30 (by decide) ?_
      subst K
      exact zi_ireturn dX12_takes_31 rfl (by decide)
    · have K := K.2 (zb_1 c5)
      refine zi_iconst (v := 1) dX12_takes_26 (by decide) ?_
      refine zi_goto (tgt := 31) dX12_takes_27 (by decide) ?_
      subst K
      exact zi_ireturn dX12_takes_31 rfl (by decide)
set_option maxRecDepth 100000 in
theorem tX12_stops_0 {G : zG} {d b : Nat} {I : Nat → Nat → Int32} {L : Nat → Nat → Int64} {R : zR}  (hR : zR0 R)
    (K : (∃ (I1 : Nat → Nat → Int32) (L2 : Nat → Nat → Int64), zCall (d + 1) mX12_next [.ref 56] (zh b I L) (none, zh b I1 L2) ∧ ((¬ (I1 56 11) = 3 → R = (some (.int 0), zh b I1 L2)) ∧ ((I1 56 11) = 3 → R = (some (.int 1), zh b I1 L2))))) :
    zA G (d + 2) mX12_stops 0 [some (.ref 56)] [] (zh b I L) R := by
  refine zi_aload_n dX12_stops_0 rfl rfl ?_
  obtain ⟨I1, L2, h3, K⟩ := K
  refine zi_callV (N := mX12_next) (av := []) (st := []) (R1 := (none, zh b I1 L2)) dX12_stops_1 okX12_next u_952 u_954 s_28 zc12 (rfl) (Nat.le_of_ble_eq_true rfl) arX12_next rfl (Nat.le_of_ble_eq_true rfl) (h3) hR ?_
  show zA G (d + 2) mX12_stops 4 [some (.ref 56)] [] (zh b I1 L2) R
  refine zi_aload_n dX12_stops_4 rfl rfl ?_
  refine zg_getI (k := 11) dX12_stops_5 zc12 rfl (Nat.le_of_ble_eq_true rfl) (Nat.le_of_ble_eq_true rfl) u_817 rfl ?_
  refine zi_iconst (v := 3) dX12_stops_8 (by decide) ?_
  refine zi_icmp_ne (tgt := 16) dX12_stops_9 (by decide) (fun c4 => ?_) (fun c4 => ?_)
  · have K := K.1 c4
    refine zi_iconst (v := 0) dX12_stops_16 (by decide) ?_
    subst K
    exact zi_ireturn dX12_stops_17 rfl (by decide)
  · have K := K.2 c4
    refine zi_iconst (v := 1) dX12_stops_12 (by decide) ?_
    refine zi_goto (tgt := 17) dX12_stops_13 (by decide) ?_
    subst K
    exact zi_ireturn dX12_stops_17 rfl (by decide)
set_option maxRecDepth 100000 in
theorem tX12_takesHill_0 {G : zG} {d b : Nat} {I : Nat → Nat → Int32} {L : Nat → Nat → Int64} {R : zR}  (hR : zR0 R)
    (K : (∃ (I1 : Nat → Nat → Int32) (L2 : Nat → Nat → Int64), zCall (d + 2) mX12_next [.ref 56] (zh b I L) (none, zh b I1 L2) ∧ ((¬ (I1 56 11) = 1 → R = (some (.int 0), zh b I1 L2)) ∧ ((I1 56 11) = 1 → ((¬ (lg_cmp (L2 56 12) 271756) = 0 → R = (some (.int 0), zh b I1 L2)) ∧ ((lg_cmp (L2 56 12) 271756) = 0 → (∃ (r6 : Bool) (I7 : Nat → Nat → Int32) (L8 : Nat → Nat → Int64), zCall (d + 2) mX12_takes [.ref 56, .int 1, .int 8] (zh b I1 L2) (some (.int (zB r6)), zh b I7 L8) ∧ ((r6 = true → (∃ (r11 : Bool) (I12 : Nat → Nat → Int32) (L13 : Nat → Nat → Int64), zCall (d + 2) mX12_takes [.ref 56, .int 1, .int 6] (zh b I7 L8) (some (.int (zB r11)), zh b I12 L13) ∧ ((r11 = true → (∃ (I16 : Nat → Nat → Int32), zCall (d + 2) mX12_clean [.ref 58, .int ((L8 56 12).toInt32), .int ((L13 56 12).toInt32)] (zh b I12 L13) (none, zh b I16 L13) ∧ (∃ (r18 : Bool) (I19 : Nat → Nat → Int32) (L20 : Nat → Nat → Int64), zCall (d + 2) mX12_stops [.ref 56] (zh b I16 L13) (some (.int (zB r18)), zh b I19 L20) ∧ R = (some (.int (zB r18)), zh b I19 L20)))) ∧ (r11 = false → R = (some (.int 0), zh b I12 L13))))) ∧ (r6 = false → R = (some (.int 0), zh b I7 L8)))))))))) :
    zA G (d + 3) mX12_takesHill 0 [some (.ref 56), none] [] (zh b I L) R := by
  refine zi_aload_n dX12_takesHill_0 rfl rfl ?_
  obtain ⟨I1, L2, h3, K⟩ := K
  refine zi_callV (N := mX12_next) (av := []) (st := []) (R1 := (none, zh b I1 L2)) dX12_takesHill_1 okX12_next u_952 u_954 s_28 zc12 (rfl) (Nat.le_of_ble_eq_true rfl) arX12_next rfl (Nat.le_of_ble_eq_true rfl) (h3) hR ?_
  show zA G (d + 3) mX12_takesHill 4 [some (.ref 56), none] [] (zh b I1 L2) R
  refine zi_aload_n dX12_takesHill_4 rfl rfl ?_
  refine zg_getI (k := 11) dX12_takesHill_5 zc12 rfl (Nat.le_of_ble_eq_true rfl) (Nat.le_of_ble_eq_true rfl) u_817 rfl ?_
  refine zi_iconst (v := 1) dX12_takesHill_8 (by decide) ?_
  refine zi_icmp_ne (tgt := 33) dX12_takesHill_9 (by decide) (fun c4 => ?_) (fun c4 => ?_)
  · have K := K.1 c4
    refine zi_iconst (v := 0) dX12_takesHill_33 (by decide) ?_
    subst K
    exact zi_ireturn dX12_takesHill_34 rfl (by decide)
  · have K := K.2 c4
    refine zi_aload_n dX12_takesHill_12 rfl rfl ?_
    refine zg_getL (k := 12) dX12_takesHill_13 zc12 rfl (Nat.le_of_ble_eq_true rfl) (Nat.le_of_ble_eq_true rfl) u_818 rfl ?_
    refine zi_ldc2 dX12_takesHill_16 u_968 ?_
    refine zi_lcmp dX12_takesHill_19 ?_
    refine zi_if_ne (tgt := 33) dX12_takesHill_20 (by decide) (fun c5 => ?_) (fun c5 => ?_)
    · have K := K.1 c5
      refine zi_iconst (v := 0) dX12_takesHill_33 (by decide) ?_
      subst K
      exact zi_ireturn dX12_takesHill_34 rfl (by decide)
    · have K := K.2 c5
      refine zi_aload_n dX12_takesHill_23 rfl rfl ?_
      refine zi_iconst (v := 1) dX12_takesHill_24 (by decide) ?_
      refine zi_bipush (v := 8) dX12_takesHill_25 (by decide) ?_
      obtain ⟨r6, I7, L8, h9, K⟩ := K
      refine zi_callV (N := mX12_takes) (av := [.int 1, .int 8]) (st := []) (R1 := (some (.int (zB r6)), zh b I7 L8)) dX12_takesHill_27 okX12_takes u_969 u_971 s_29 zc12 (rfl) (Nat.le_of_ble_eq_true rfl) arX12_takes rfl (Nat.le_of_ble_eq_true rfl) (h9) hR ?_
      show zA G (d + 3) mX12_takesHill 30 [some (.ref 56), none] [.int (zB r6)] (zh b I7 L8) R
      refine zi_if_ne (tgt := 35) dX12_takesHill_30 (by decide) (fun c10 => ?_) (fun c10 => ?_)
      · have K := K.1 (zB_1 c10)
        refine zi_aload_n dX12_takesHill_35 rfl rfl ?_
        refine zg_getL (k := 12) dX12_takesHill_36 zc12 rfl (Nat.le_of_ble_eq_true rfl) (Nat.le_of_ble_eq_true rfl) u_818 rfl ?_
        refine zi_l2i dX12_takesHill_39 ?_
        refine zi_istore_n (ls' := [some (.ref 56), some (.int ((L8 56 12).toInt32))]) dX12_takesHill_40 rfl (by decide) rfl ?_
        refine zi_aload_n dX12_takesHill_41 rfl rfl ?_
        refine zi_iconst (v := 1) dX12_takesHill_42 (by decide) ?_
        refine zi_bipush (v := 6) dX12_takesHill_43 (by decide) ?_
        obtain ⟨r11, I12, L13, h14, K⟩ := K
        refine zi_callV (N := mX12_takes) (av := [.int 1, .int 6]) (st := []) (R1 := (some (.int (zB r11)), zh b I12 L13)) dX12_takesHill_45 okX12_takes u_969 u_971 s_29 zc12 (rfl) (Nat.le_of_ble_eq_true rfl) arX12_takes rfl (Nat.le_of_ble_eq_true rfl) (h14) hR ?_
        show zA G (d + 3) mX12_takesHill 48 [some (.ref 56), some (.int ((L8 56 12).toInt32))] [.int (zB r11)] (zh b I12 L13) R
        refine zi_if_ne (tgt := 53) dX12_takesHill_48 (by decide) (fun c15 => ?_) (fun c15 => ?_)
        · have K := K.1 (zB_1 c15)
          refine zi_aload_n dX12_takesHill_53 rfl rfl ?_
          refine zg_getF (k := 1) (v := .ref 58) dX12_takesHill_54 zc12 rfl (Nat.le_of_ble_eq_true rfl) (Nat.le_of_ble_eq_true rfl) u_807 rfl (rfl) ?_
          refine zi_iload_n dX12_takesHill_57 rfl rfl ?_
          refine zi_aload_n dX12_takesHill_58 rfl rfl ?_
          refine zg_getL (k := 12) dX12_takesHill_59 zc12 rfl (Nat.le_of_ble_eq_true rfl) (Nat.le_of_ble_eq_true rfl) u_818 rfl ?_
          refine zi_l2i dX12_takesHill_62 ?_
          obtain ⟨I16, h17, K⟩ := K
          refine zi_callS (N := mX12_clean) (av := [.ref 58, .int ((L8 56 12).toInt32), .int ((L13 56 12).toInt32)]) (st := []) (R1 := (none, zh b I16 L13)) dX12_takesHill_63 okX12_clean u_798 u_799 arX12_clean rfl (Nat.le_of_ble_eq_true rfl) (h17) hR ?_
          show zA G (d + 3) mX12_takesHill 66 [some (.ref 56), some (.int ((L8 56 12).toInt32))] [] (zh b I16 L13) R
          refine zi_aload_n dX12_takesHill_66 rfl rfl ?_
          obtain ⟨r18, I19, L20, h21, K⟩ := K
          refine zi_callV (N := mX12_stops) (av := []) (st := []) (R1 := (some (.int (zB r18)), zh b I19 L20)) dX12_takesHill_67 okX12_stops u_973 u_975 s_30 zc12 (rfl) (Nat.le_of_ble_eq_true rfl) arX12_stops rfl (Nat.le_of_ble_eq_true rfl) (h21) hR ?_
          show zA G (d + 3) mX12_takesHill 70 [some (.ref 56), some (.int ((L8 56 12).toInt32))] [.int (zB r18)] (zh b I19 L20) R
          subst K
          exact zi_ireturn dX12_takesHill_70 rfl (znB _)
        · have K := K.2 (zB_0 c15)
          refine zi_iconst (v := 0) dX12_takesHill_51 (by decide) ?_
          subst K
          exact zi_ireturn dX12_takesHill_52 rfl (by decide)
      · have K := K.2 (zB_0 c10)
        refine zi_iconst (v := 0) dX12_takesHill_33 (by decide) ?_
        subst K
        exact zi_ireturn dX12_takesHill_34 rfl (by decide)
set_option maxRecDepth 100000 in
theorem tX12_takesCell_0 {G : zG} {d b : Nat} {I : Nat → Nat → Int32} {L : Nat → Nat → Int64} {R : zR} {x1 : Int32} (hR : zR0 R)
    (K : (∃ (r1 : Bool) (I2 : Nat → Nat → Int32) (L3 : Nat → Nat → Int64), zCall (d + 2) mX12_takes [.ref 56, .int 0, .int ((I 58 0) - 1)] (zh b I L) (some (.int (zB r1)), zh b I2 L3) ∧ ((r1 = true → (∃ (r6 : Bool) (I7 : Nat → Nat → Int32) (L8 : Nat → Nat → Int64), zCall (d + 2) mX12_takes [.ref 56, .int 0, .int ((I2 58 1) - 1)] (zh b I2 L3) (some (.int (zB r6)), zh b I7 L8) ∧ ((r6 = true → ((¬ x1 = 0 → (∃ (r12 : Bool) (I13 : Nat → Nat → Int32) (L14 : Nat → Nat → Int64), zCall (d + 2) mX12_takes [.ref 56, .int 0, .int 3] (zh b I7 L8) (some (.int (zB r12)), zh b I13 L14) ∧ ((r12 = true → (vp_in (zca x1 ((L3 56 12).toInt32) ((L8 56 12).toInt32)) 463 ∧ (∃ (r18 : Bool) (I19 : Nat → Nat → Int32) (L20 : Nat → Nat → Int64), zCall (d + 2) mX12_stops [.ref 56] (zh b (zup I13 58 (zx (zca x1 ((L3 56 12).toInt32) ((L8 56 12).toInt32))) ((L14 56 12).toInt32)) L14) (some (.int (zB r18)), zh b I19 L20) ∧ R = (some (.int (zB r18)), zh b I19 L20)))) ∧ (r12 = false → R = (some (.int 0), zh b I13 L14))))) ∧ (x1 = 0 → (∃ (r22 : Bool) (I23 : Nat → Nat → Int32) (L24 : Nat → Nat → Int64), zCall (d + 2) mX12_takes [.ref 56, .int 0, .int 9] (zh b I7 L8) (some (.int (zB r22)), zh b I23 L24) ∧ ((r22 = true → (vp_in (zca x1 ((L3 56 12).toInt32) ((L8 56 12).toInt32)) 463 ∧ (∃ (r28 : Bool) (I29 : Nat → Nat → Int32) (L30 : Nat → Nat → Int64), zCall (d + 2) mX12_stops [.ref 56] (zh b (zup I23 58 (zx (zca x1 ((L3 56 12).toInt32) ((L8 56 12).toInt32))) ((L24 56 12).toInt32)) L24) (some (.int (zB r28)), zh b I29 L30) ∧ R = (some (.int (zB r28)), zh b I29 L30)))) ∧ (r22 = false → R = (some (.int 0), zh b I23 L24))))))) ∧ (r6 = false → R = (some (.int 0), zh b I7 L8))))) ∧ (r1 = false → R = (some (.int 0), zh b I2 L3))))) :
    zA G (d + 3) mX12_takesCell 0 [some (.ref 56), some (.int x1), none, none] [] (zh b I L) R := by
  refine zi_aload_n dX12_takesCell_0 rfl rfl ?_
  refine zi_iconst (v := 0) dX12_takesCell_1 (by decide) ?_
  refine zi_aload_n dX12_takesCell_2 rfl rfl ?_
  refine zg_getF (k := 1) (v := .ref 58) dX12_takesCell_3 zc12 rfl (Nat.le_of_ble_eq_true rfl) (Nat.le_of_ble_eq_true rfl) u_807 rfl (rfl) ?_
  refine zi_iconst (v := 0) dX12_takesCell_6 (by decide) ?_
  refine zg_iaload dX12_takesCell_7 (rfl) (Nat.le_of_ble_eq_true rfl) (zvi (by decide)) ?_
  show zA G (d + 3) mX12_takesCell 8 [some (.ref 56), some (.int x1), none, none] [.int (I 58 0), .int 0, .ref 56] (zh b I L) R
  refine zi_iconst (v := 1) dX12_takesCell_8 (by decide) ?_
  refine zi_isub dX12_takesCell_9 ?_
  obtain ⟨r1, I2, L3, h4, K⟩ := K
  refine zi_callV (N := mX12_takes) (av := [.int 0, .int ((I 58 0) - 1)]) (st := []) (R1 := (some (.int (zB r1)), zh b I2 L3)) dX12_takesCell_10 okX12_takes u_969 u_971 s_29 zc12 (rfl) (Nat.le_of_ble_eq_true rfl) arX12_takes rfl (Nat.le_of_ble_eq_true rfl) (h4) hR ?_
  show zA G (d + 3) mX12_takesCell 13 [some (.ref 56), some (.int x1), none, none] [.int (zB r1)] (zh b I2 L3) R
  refine zi_if_ne (tgt := 18) dX12_takesCell_13 (by decide) (fun c5 => ?_) (fun c5 => ?_)
  · have K := K.1 (zB_1 c5)
    refine zi_aload_n dX12_takesCell_18 rfl rfl ?_
    refine zg_getL (k := 12) dX12_takesCell_19 zc12 rfl (Nat.le_of_ble_eq_true rfl) (Nat.le_of_ble_eq_true rfl) u_818 rfl ?_
    refine zi_l2i dX12_takesCell_22 ?_
    refine zi_istore_n (ls' := [some (.ref 56), some (.int x1), some (.int ((L3 56 12).toInt32)), none]) dX12_takesCell_23 rfl (by decide) rfl ?_
    refine zi_aload_n dX12_takesCell_24 rfl rfl ?_
    refine zi_iconst (v := 0) dX12_takesCell_25 (by decide) ?_
    refine zi_aload_n dX12_takesCell_26 rfl rfl ?_
    refine zg_getF (k := 1) (v := .ref 58) dX12_takesCell_27 zc12 rfl (Nat.le_of_ble_eq_true rfl) (Nat.le_of_ble_eq_true rfl) u_807 rfl (rfl) ?_
    refine zi_iconst (v := 1) dX12_takesCell_30 (by decide) ?_
    refine zg_iaload dX12_takesCell_31 (rfl) (Nat.le_of_ble_eq_true rfl) (zvi (by decide)) ?_
    show zA G (d + 3) mX12_takesCell 32 [some (.ref 56), some (.int x1), some (.int ((L3 56 12).toInt32)), none] [.int (I2 58 1), .int 0, .ref 56] (zh b I2 L3) R
    refine zi_iconst (v := 1) dX12_takesCell_32 (by decide) ?_
    refine zi_isub dX12_takesCell_33 ?_
    obtain ⟨r6, I7, L8, h9, K⟩ := K
    refine zi_callV (N := mX12_takes) (av := [.int 0, .int ((I2 58 1) - 1)]) (st := []) (R1 := (some (.int (zB r6)), zh b I7 L8)) dX12_takesCell_34 okX12_takes u_969 u_971 s_29 zc12 (rfl) (Nat.le_of_ble_eq_true rfl) arX12_takes rfl (Nat.le_of_ble_eq_true rfl) (h9) hR ?_
    show zA G (d + 3) mX12_takesCell 37 [some (.ref 56), some (.int x1), some (.int ((L3 56 12).toInt32)), none] [.int (zB r6)] (zh b I7 L8) R
    refine zi_if_ne (tgt := 42) dX12_takesCell_37 (by decide) (fun c10 => ?_) (fun c10 => ?_)
    · have K := K.1 (zB_1 c10)
      refine zi_aload_n dX12_takesCell_42 rfl rfl ?_
      refine zg_getL (k := 12) dX12_takesCell_43 zc12 rfl (Nat.le_of_ble_eq_true rfl) (Nat.le_of_ble_eq_true rfl) u_818 rfl ?_
      refine zi_l2i dX12_takesCell_46 ?_
      refine zi_istore_n (ls' := [some (.ref 56), some (.int x1), some (.int ((L3 56 12).toInt32)), some (.int ((L8 56 12).toInt32))]) dX12_takesCell_47 rfl (by decide) rfl ?_
      refine zi_aload_n dX12_takesCell_48 rfl rfl ?_
      refine zi_iconst (v := 0) dX12_takesCell_49 (by decide) ?_
      refine zi_iload_n dX12_takesCell_50 rfl rfl ?_
      refine zi_if_ne (tgt := 59) dX12_takesCell_51 (by decide) (fun c11 => ?_) (fun c11 => ?_)
      · have K := K.1 c11
        refine zi_iconst (v := 3) dX12_takesCell_59 (by decide) ?_
        obtain ⟨r12, I13, L14, h15, K⟩ := K
        refine zi_callV (N := mX12_takes) (av := [.int 0, .int 3]) (st := []) (R1 := (some (.int (zB r12)), zh b I13 L14)) dX12_takesCell_60 okX12_takes u_969 u_971 s_29 zc12 (rfl) (Nat.le_of_ble_eq_true rfl) arX12_takes rfl (Nat.le_of_ble_eq_true rfl) (h15) hR ?_
        show zA G (d + 3) mX12_takesCell 63 [some (.ref 56), some (.int x1), some (.int ((L3 56 12).toInt32)), some (.int ((L8 56 12).toInt32))] [.int (zB r12)] (zh b I13 L14) R
        refine zi_if_ne (tgt := 68) dX12_takesCell_63 (by decide) (fun c16 => ?_) (fun c16 => ?_)
        · have K := K.1 (zB_1 c16)
          refine zi_aload_n dX12_takesCell_68 rfl rfl ?_
          refine zg_getF (k := 1) (v := .ref 58) dX12_takesCell_69 zc12 rfl (Nat.le_of_ble_eq_true rfl) (Nat.le_of_ble_eq_true rfl) u_807 rfl (rfl) ?_
          refine zi_iload_n dX12_takesCell_72 rfl rfl ?_
          refine zi_iload_n dX12_takesCell_73 rfl rfl ?_
          refine zi_iload_n dX12_takesCell_74 rfl rfl ?_
          refine zi_callS (N := mX12_cellAt) (av := [.int x1, .int ((L3 56 12).toInt32), .int ((L8 56 12).toInt32)]) (st := [.ref 58]) (R1 := (some (.int (zca x1 ((L3 56 12).toInt32) ((L8 56 12).toInt32))), zh b I13 L14)) dX12_takesCell_75 okX12_cellAt u_899 u_900 arX12_cellAt rfl (Nat.le_of_ble_eq_true rfl) (kX12_cellAt _ _ _) hR ?_
          show zA G (d + 3) mX12_takesCell 78 [some (.ref 56), some (.int x1), some (.int ((L3 56 12).toInt32)), some (.int ((L8 56 12).toInt32))] [.int (zca x1 ((L3 56 12).toInt32) ((L8 56 12).toInt32)), .ref 58] (zh b I13 L14) R
          refine zi_aload_n dX12_takesCell_78 rfl rfl ?_
          refine zg_getL (k := 12) dX12_takesCell_79 zc12 rfl (Nat.le_of_ble_eq_true rfl) (Nat.le_of_ble_eq_true rfl) u_818 rfl ?_
          refine zi_l2i dX12_takesCell_82 ?_
          have o17 := K.1
          have K := K.2
          refine zg_iastore dX12_takesCell_83 (rfl) (Nat.le_of_ble_eq_true rfl) o17 ?_
          refine zi_aload_n dX12_takesCell_84 rfl rfl ?_
          obtain ⟨r18, I19, L20, h21, K⟩ := K
          refine zi_callV (N := mX12_stops) (av := []) (st := []) (R1 := (some (.int (zB r18)), zh b I19 L20)) dX12_takesCell_85 okX12_stops u_973 u_975 s_30 zc12 (rfl) (Nat.le_of_ble_eq_true rfl) arX12_stops rfl (Nat.le_of_ble_eq_true rfl) (h21) hR ?_
          show zA G (d + 3) mX12_takesCell 88 [some (.ref 56), some (.int x1), some (.int ((L3 56 12).toInt32)), some (.int ((L8 56 12).toInt32))] [.int (zB r18)] (zh b I19 L20) R
          subst K
          exact zi_ireturn dX12_takesCell_88 rfl (znB _)
        · have K := K.2 (zB_0 c16)
          refine zi_iconst (v := 0) dX12_takesCell_66 (by decide) ?_
          subst K
          exact zi_ireturn dX12_takesCell_67 rfl (by decide)
      · have K := K.2 c11
        refine zi_bipush (v := 9) dX12_takesCell_54 (by decide) ?_
        refine zi_goto (tgt := 60) dX12_takesCell_56 (by decide) ?_
        obtain ⟨r22, I23, L24, h25, K⟩ := K
        refine zi_callV (N := mX12_takes) (av := [.int 0, .int 9]) (st := []) (R1 := (some (.int (zB r22)), zh b I23 L24)) dX12_takesCell_60 okX12_takes u_969 u_971 s_29 zc12 (rfl) (Nat.le_of_ble_eq_true rfl) arX12_takes rfl (Nat.le_of_ble_eq_true rfl) (h25) hR ?_
        show zA G (d + 3) mX12_takesCell 63 [some (.ref 56), some (.int x1), some (.int ((L3 56 12).toInt32)), some (.int ((L8 56 12).toInt32))] [.int (zB r22)] (zh b I23 L24) R
        refine zi_if_ne (tgt := 68) dX12_takesCell_63 (by decide) (fun c26 => ?_) (fun c26 => ?_)
        · have K := K.1 (zB_1 c26)
          refine zi_aload_n dX12_takesCell_68 rfl rfl ?_
          refine zg_getF (k := 1) (v := .ref 58) dX12_takesCell_69 zc12 rfl (Nat.le_of_ble_eq_true rfl) (Nat.le_of_ble_eq_true rfl) u_807 rfl (rfl) ?_
          refine zi_iload_n dX12_takesCell_72 rfl rfl ?_
          refine zi_iload_n dX12_takesCell_73 rfl rfl ?_
          refine zi_iload_n dX12_takesCell_74 rfl rfl ?_
          refine zi_callS (N := mX12_cellAt) (av := [.int x1, .int ((L3 56 12).toInt32), .int ((L8 56 12).toInt32)]) (st := [.ref 58]) (R1 := (some (.int (zca x1 ((L3 56 12).toInt32) ((L8 56 12).toInt32))), zh b I23 L24)) dX12_takesCell_75 okX12_cellAt u_899 u_900 arX12_cellAt rfl (Nat.le_of_ble_eq_true rfl) (kX12_cellAt _ _ _) hR ?_
          show zA G (d + 3) mX12_takesCell 78 [some (.ref 56), some (.int x1), some (.int ((L3 56 12).toInt32)), some (.int ((L8 56 12).toInt32))] [.int (zca x1 ((L3 56 12).toInt32) ((L8 56 12).toInt32)), .ref 58] (zh b I23 L24) R
          refine zi_aload_n dX12_takesCell_78 rfl rfl ?_
          refine zg_getL (k := 12) dX12_takesCell_79 zc12 rfl (Nat.le_of_ble_eq_true rfl) (Nat.le_of_ble_eq_true rfl) u_818 rfl ?_
          refine zi_l2i dX12_takesCell_82 ?_
          have o27 := K.1
          have K := K.2
          refine zg_iastore dX12_takesCell_83 (rfl) (Nat.le_of_ble_eq_true rfl) o27 ?_
          refine zi_aload_n dX12_takesCell_84 rfl rfl ?_
          obtain ⟨r28, I29, L30, h31, K⟩ := K
          refine zi_callV (N := mX12_stops) (av := []) (st := []) (R1 := (some (.int (zB r28)), zh b I29 L30)) dX12_takesCell_85 okX12_stops u_973 u_975 s_30 zc12 (rfl) (Nat.le_of_ble_eq_true rfl) arX12_stops rfl (Nat.le_of_ble_eq_true rfl) (h31) hR ?_
          show zA G (d + 3) mX12_takesCell 88 [some (.ref 56), some (.int x1), some (.int ((L3 56 12).toInt32)), some (.int ((L8 56 12).toInt32))] [.int (zB r28)] (zh b I29 L30) R
          subst K
          exact zi_ireturn dX12_takesCell_88 rfl (znB _)
        · have K := K.2 (zB_0 c26)
          refine zi_iconst (v := 0) dX12_takesCell_66 (by decide) ?_
          subst K
          exact zi_ireturn dX12_takesCell_67 rfl (by decide)
    · have K := K.2 (zB_0 c10)
      refine zi_iconst (v := 0) dX12_takesCell_40 (by decide) ?_
      subst K
      exact zi_ireturn dX12_takesCell_41 rfl (by decide)
  · have K := K.2 (zB_0 c5)
    refine zi_iconst (v := 0) dX12_takesCell_16 (by decide) ?_
    subst K
    exact zi_ireturn dX12_takesCell_17 rfl (by decide)
set_option maxRecDepth 100000 in
theorem tX12_takesRunner_0 {G : zG} {d b : Nat} {I : Nat → Nat → Int32} {L : Nat → Nat → Int64} {R : zR}  (hR : zR0 R)
    (K : (((I 58 2) = 6 → R = (some (.int 0), zh b I L)) ∧ (¬ (I 58 2) = 6 → (∃ (r2 : Bool) (I3 : Nat → Nat → Int32) (L4 : Nat → Nat → Int64), zCall (d + 2) mX12_takes [.ref 56, .int 0, .int 4] (zh b I L) (some (.int (zB r2)), zh b I3 L4) ∧ ((r2 = true → (∃ (r7 : Bool) (I8 : Nat → Nat → Int32) (L9 : Nat → Nat → Int64), zCall (d + 2) mX12_takes [.ref 56, .int 0, .int ((I3 58 1) - 1)] (zh b I3 L4) (some (.int (zB r7)), zh b I8 L9) ∧ ((r7 = true → (∃ (r12 : Bool) (I13 : Nat → Nat → Int32) (L14 : Nat → Nat → Int64), zCall (d + 2) mX12_takes [.ref 56, .int 0, .int 99] (zh b I8 L9) (some (.int (zB r12)), zh b I13 L14) ∧ ((r12 = true → (∃ (r17 : Int32) (I18 : Nat → Nat → Int32), zCall (d + 2) mX12_joins [.ref 58, .int ((L4 56 12).toInt32), .int ((L9 56 12).toInt32), .int ((L14 56 12).toInt32)] (zh b I13 L14) (some (.int r17), zh b I18 L14) ∧ (∃ (r20 : Bool) (I21 : Nat → Nat → Int32) (L22 : Nat → Nat → Int64), zCall (d + 2) mX12_stops [.ref 56] (zh b I18 L14) (some (.int (zB r20)), zh b I21 L22) ∧ R = (some (.int (zB r20)), zh b I21 L22)))) ∧ (r12 = false → R = (some (.int 0), zh b I13 L14))))) ∧ (r7 = false → R = (some (.int 0), zh b I8 L9))))) ∧ (r2 = false → R = (some (.int 0), zh b I3 L4))))))) :
    zA G (d + 3) mX12_takesRunner 0 [some (.ref 56), none, none, none] [] (zh b I L) R := by
  refine zi_aload_n dX12_takesRunner_0 rfl rfl ?_
  refine zg_getF (k := 1) (v := .ref 58) dX12_takesRunner_1 zc12 rfl (Nat.le_of_ble_eq_true rfl) (Nat.le_of_ble_eq_true rfl) u_807 rfl (rfl) ?_
  refine zi_iconst (v := 2) dX12_takesRunner_4 (by decide) ?_
  refine zg_iaload dX12_takesRunner_5 (rfl) (Nat.le_of_ble_eq_true rfl) (zvi (by decide)) ?_
  show zA G (d + 3) mX12_takesRunner 6 [some (.ref 56), none, none, none] [.int (I 58 2)] (zh b I L) R
  refine zi_bipush (v := 6) dX12_takesRunner_6 (by decide) ?_
  refine zi_icmp_eq (tgt := 20) dX12_takesRunner_8 (by decide) (fun c1 => ?_) (fun c1 => ?_)
  · have K := K.1 c1
    refine zi_iconst (v := 0) dX12_takesRunner_20 (by decide) ?_
    subst K
    exact zi_ireturn dX12_takesRunner_21 rfl (by decide)
  · have K := K.2 c1
    refine zi_aload_n dX12_takesRunner_11 rfl rfl ?_
    refine zi_iconst (v := 0) dX12_takesRunner_12 (by decide) ?_
    refine zi_iconst (v := 4) dX12_takesRunner_13 (by decide) ?_
    obtain ⟨r2, I3, L4, h5, K⟩ := K
    refine zi_callV (N := mX12_takes) (av := [.int 0, .int 4]) (st := []) (R1 := (some (.int (zB r2)), zh b I3 L4)) dX12_takesRunner_14 okX12_takes u_969 u_971 s_29 zc12 (rfl) (Nat.le_of_ble_eq_true rfl) arX12_takes rfl (Nat.le_of_ble_eq_true rfl) (h5) hR ?_
    show zA G (d + 3) mX12_takesRunner 17 [some (.ref 56), none, none, none] [.int (zB r2)] (zh b I3 L4) R
    refine zi_if_ne (tgt := 22) dX12_takesRunner_17 (by decide) (fun c6 => ?_) (fun c6 => ?_)
    · have K := K.1 (zB_1 c6)
      refine zi_aload_n dX12_takesRunner_22 rfl rfl ?_
      refine zg_getL (k := 12) dX12_takesRunner_23 zc12 rfl (Nat.le_of_ble_eq_true rfl) (Nat.le_of_ble_eq_true rfl) u_818 rfl ?_
      refine zi_l2i dX12_takesRunner_26 ?_
      refine zi_istore_n (ls' := [some (.ref 56), some (.int ((L4 56 12).toInt32)), none, none]) dX12_takesRunner_27 rfl (by decide) rfl ?_
      refine zi_aload_n dX12_takesRunner_28 rfl rfl ?_
      refine zi_iconst (v := 0) dX12_takesRunner_29 (by decide) ?_
      refine zi_aload_n dX12_takesRunner_30 rfl rfl ?_
      refine zg_getF (k := 1) (v := .ref 58) dX12_takesRunner_31 zc12 rfl (Nat.le_of_ble_eq_true rfl) (Nat.le_of_ble_eq_true rfl) u_807 rfl (rfl) ?_
      refine zi_iconst (v := 1) dX12_takesRunner_34 (by decide) ?_
      refine zg_iaload dX12_takesRunner_35 (rfl) (Nat.le_of_ble_eq_true rfl) (zvi (by decide)) ?_
      show zA G (d + 3) mX12_takesRunner 36 [some (.ref 56), some (.int ((L4 56 12).toInt32)), none, none] [.int (I3 58 1), .int 0, .ref 56] (zh b I3 L4) R
      refine zi_iconst (v := 1) dX12_takesRunner_36 (by decide) ?_
      refine zi_isub dX12_takesRunner_37 ?_
      obtain ⟨r7, I8, L9, h10, K⟩ := K
      refine zi_callV (N := mX12_takes) (av := [.int 0, .int ((I3 58 1) - 1)]) (st := []) (R1 := (some (.int (zB r7)), zh b I8 L9)) dX12_takesRunner_38 okX12_takes u_969 u_971 s_29 zc12 (rfl) (Nat.le_of_ble_eq_true rfl) arX12_takes rfl (Nat.le_of_ble_eq_true rfl) (h10) hR ?_
      show zA G (d + 3) mX12_takesRunner 41 [some (.ref 56), some (.int ((L4 56 12).toInt32)), none, none] [.int (zB r7)] (zh b I8 L9) R
      refine zi_if_ne (tgt := 46) dX12_takesRunner_41 (by decide) (fun c11 => ?_) (fun c11 => ?_)
      · have K := K.1 (zB_1 c11)
        refine zi_aload_n dX12_takesRunner_46 rfl rfl ?_
        refine zg_getL (k := 12) dX12_takesRunner_47 zc12 rfl (Nat.le_of_ble_eq_true rfl) (Nat.le_of_ble_eq_true rfl) u_818 rfl ?_
        refine zi_l2i dX12_takesRunner_50 ?_
        refine zi_istore_n (ls' := [some (.ref 56), some (.int ((L4 56 12).toInt32)), some (.int ((L9 56 12).toInt32)), none]) dX12_takesRunner_51 rfl (by decide) rfl ?_
        refine zi_aload_n dX12_takesRunner_52 rfl rfl ?_
        refine zi_iconst (v := 0) dX12_takesRunner_53 (by decide) ?_
        refine zi_bipush (v := 99) dX12_takesRunner_54 (by decide) ?_
        obtain ⟨r12, I13, L14, h15, K⟩ := K
        refine zi_callV (N := mX12_takes) (av := [.int 0, .int 99]) (st := []) (R1 := (some (.int (zB r12)), zh b I13 L14)) dX12_takesRunner_56 okX12_takes u_969 u_971 s_29 zc12 (rfl) (Nat.le_of_ble_eq_true rfl) arX12_takes rfl (Nat.le_of_ble_eq_true rfl) (h15) hR ?_
        show zA G (d + 3) mX12_takesRunner 59 [some (.ref 56), some (.int ((L4 56 12).toInt32)), some (.int ((L9 56 12).toInt32)), none] [.int (zB r12)] (zh b I13 L14) R
        refine zi_if_ne (tgt := 64) dX12_takesRunner_59 (by decide) (fun c16 => ?_) (fun c16 => ?_)
        · have K := K.1 (zB_1 c16)
          refine zi_aload_n dX12_takesRunner_64 rfl rfl ?_
          refine zg_getF (k := 1) (v := .ref 58) dX12_takesRunner_65 zc12 rfl (Nat.le_of_ble_eq_true rfl) (Nat.le_of_ble_eq_true rfl) u_807 rfl (rfl) ?_
          refine zi_iload_n dX12_takesRunner_68 rfl rfl ?_
          refine zi_iload_n dX12_takesRunner_69 rfl rfl ?_
          refine zi_aload_n dX12_takesRunner_70 rfl rfl ?_
          refine zg_getL (k := 12) dX12_takesRunner_71 zc12 rfl (Nat.le_of_ble_eq_true rfl) (Nat.le_of_ble_eq_true rfl) u_818 rfl ?_
          refine zi_l2i dX12_takesRunner_74 ?_
          obtain ⟨r17, I18, h19, K⟩ := K
          refine zi_callS (N := mX12_joins) (av := [.ref 58, .int ((L4 56 12).toInt32), .int ((L9 56 12).toInt32), .int ((L14 56 12).toInt32)]) (st := []) (R1 := (some (.int r17), zh b I18 L14)) dX12_takesRunner_75 okX12_joins u_915 u_916 arX12_joins rfl (Nat.le_of_ble_eq_true rfl) (h19) hR ?_
          show zA G (d + 3) mX12_takesRunner 78 [some (.ref 56), some (.int ((L4 56 12).toInt32)), some (.int ((L9 56 12).toInt32)), none] [.int r17] (zh b I18 L14) R
          refine zi_istore_n (ls' := [some (.ref 56), some (.int ((L4 56 12).toInt32)), some (.int ((L9 56 12).toInt32)), some (.int r17)]) dX12_takesRunner_78 rfl (by decide) rfl ?_
          refine zi_aload_n dX12_takesRunner_79 rfl rfl ?_
          obtain ⟨r20, I21, L22, h23, K⟩ := K
          refine zi_callV (N := mX12_stops) (av := []) (st := []) (R1 := (some (.int (zB r20)), zh b I21 L22)) dX12_takesRunner_80 okX12_stops u_973 u_975 s_30 zc12 (rfl) (Nat.le_of_ble_eq_true rfl) arX12_stops rfl (Nat.le_of_ble_eq_true rfl) (h23) hR ?_
          show zA G (d + 3) mX12_takesRunner 83 [some (.ref 56), some (.int ((L4 56 12).toInt32)), some (.int ((L9 56 12).toInt32)), some (.int r17)] [.int (zB r20)] (zh b I21 L22) R
          subst K
          exact zi_ireturn dX12_takesRunner_83 rfl (znB _)
        · have K := K.2 (zB_0 c16)
          refine zi_iconst (v := 0) dX12_takesRunner_62 (by decide) ?_
          subst K
          exact zi_ireturn dX12_takesRunner_63 rfl (by decide)
      · have K := K.2 (zB_0 c11)
        refine zi_iconst (v := 0) dX12_takesRunner_44 (by decide) ?_
        subst K
        exact zi_ireturn dX12_takesRunner_45 rfl (by decide)
    · have K := K.2 (zB_0 c6)
      refine zi_iconst (v := 0) dX12_takesRunner_20 (by decide) ?_
      subst K
      exact zi_ireturn dX12_takesRunner_21 rfl (by decide)
set_option maxRecDepth 100000 in
theorem tX12_takesLine_0 {G : zG} {d b : Nat} {I : Nat → Nat → Int32} {L : Nat → Nat → Int64} {R : zR}  (hR : zR0 R)
    (K : (∃ (r1 : Bool) (I2 : Nat → Nat → Int32) (L3 : Nat → Nat → Int64), zCall (d + 2) mX12_takes [.ref 56, .int 0, .int ((I 58 2) - 1)] (zh b I L) (some (.int (zB r1)), zh b I2 L3) ∧ ((r1 = true → (∃ (r6 : Bool) (I7 : Nat → Nat → Int32) (L8 : Nat → Nat → Int64), zCall (d + 2) mX12_takes [.ref 56, .int 0, .int ((I2 58 0) - 1)] (zh b I2 L3) (some (.int (zB r6)), zh b I7 L8) ∧ ((r6 = true → (∃ (r11 : Bool) (I12 : Nat → Nat → Int32) (L13 : Nat → Nat → Int64), zCall (d + 2) mX12_takes [.ref 56, .int 0, .int 2] (zh b I7 L8) (some (.int (zB r11)), zh b I12 L13) ∧ ((r11 = true → (vp_in ((119 + (8 * ((L3 56 12).toInt32))) + ((L8 56 12).toInt32)) 463 ∧ (∃ (r17 : Bool) (I18 : Nat → Nat → Int32) (L19 : Nat → Nat → Int64), zCall (d + 2) mX12_stops [.ref 56] (zh b (zup I12 58 (zx ((119 + (8 * ((L3 56 12).toInt32))) + ((L8 56 12).toInt32))) ((L13 56 12).toInt32)) L13) (some (.int (zB r17)), zh b I18 L19) ∧ R = (some (.int (zB r17)), zh b I18 L19)))) ∧ (r11 = false → R = (some (.int 0), zh b I12 L13))))) ∧ (r6 = false → R = (some (.int 0), zh b I7 L8))))) ∧ (r1 = false → R = (some (.int 0), zh b I2 L3))))) :
    zA G (d + 3) mX12_takesLine 0 [some (.ref 56), none, none] [] (zh b I L) R := by
  refine zi_aload_n dX12_takesLine_0 rfl rfl ?_
  refine zi_iconst (v := 0) dX12_takesLine_1 (by decide) ?_
  refine zi_aload_n dX12_takesLine_2 rfl rfl ?_
  refine zg_getF (k := 1) (v := .ref 58) dX12_takesLine_3 zc12 rfl (Nat.le_of_ble_eq_true rfl) (Nat.le_of_ble_eq_true rfl) u_807 rfl (rfl) ?_
  refine zi_iconst (v := 2) dX12_takesLine_6 (by decide) ?_
  refine zg_iaload dX12_takesLine_7 (rfl) (Nat.le_of_ble_eq_true rfl) (zvi (by decide)) ?_
  show zA G (d + 3) mX12_takesLine 8 [some (.ref 56), none, none] [.int (I 58 2), .int 0, .ref 56] (zh b I L) R
  refine zi_iconst (v := 1) dX12_takesLine_8 (by decide) ?_
  refine zi_isub dX12_takesLine_9 ?_
  obtain ⟨r1, I2, L3, h4, K⟩ := K
  refine zi_callV (N := mX12_takes) (av := [.int 0, .int ((I 58 2) - 1)]) (st := []) (R1 := (some (.int (zB r1)), zh b I2 L3)) dX12_takesLine_10 okX12_takes u_969 u_971 s_29 zc12 (rfl) (Nat.le_of_ble_eq_true rfl) arX12_takes rfl (Nat.le_of_ble_eq_true rfl) (h4) hR ?_
  show zA G (d + 3) mX12_takesLine 13 [some (.ref 56), none, none] [.int (zB r1)] (zh b I2 L3) R
  refine zi_if_ne (tgt := 18) dX12_takesLine_13 (by decide) (fun c5 => ?_) (fun c5 => ?_)
  · have K := K.1 (zB_1 c5)
    refine zi_aload_n dX12_takesLine_18 rfl rfl ?_
    refine zg_getL (k := 12) dX12_takesLine_19 zc12 rfl (Nat.le_of_ble_eq_true rfl) (Nat.le_of_ble_eq_true rfl) u_818 rfl ?_
    refine zi_l2i dX12_takesLine_22 ?_
    refine zi_istore_n (ls' := [some (.ref 56), some (.int ((L3 56 12).toInt32)), none]) dX12_takesLine_23 rfl (by decide) rfl ?_
    refine zi_aload_n dX12_takesLine_24 rfl rfl ?_
    refine zi_iconst (v := 0) dX12_takesLine_25 (by decide) ?_
    refine zi_aload_n dX12_takesLine_26 rfl rfl ?_
    refine zg_getF (k := 1) (v := .ref 58) dX12_takesLine_27 zc12 rfl (Nat.le_of_ble_eq_true rfl) (Nat.le_of_ble_eq_true rfl) u_807 rfl (rfl) ?_
    refine zi_iconst (v := 0) dX12_takesLine_30 (by decide) ?_
    refine zg_iaload dX12_takesLine_31 (rfl) (Nat.le_of_ble_eq_true rfl) (zvi (by decide)) ?_
    show zA G (d + 3) mX12_takesLine 32 [some (.ref 56), some (.int ((L3 56 12).toInt32)), none] [.int (I2 58 0), .int 0, .ref 56] (zh b I2 L3) R
    refine zi_iconst (v := 1) dX12_takesLine_32 (by decide) ?_
    refine zi_isub dX12_takesLine_33 ?_
    obtain ⟨r6, I7, L8, h9, K⟩ := K
    refine zi_callV (N := mX12_takes) (av := [.int 0, .int ((I2 58 0) - 1)]) (st := []) (R1 := (some (.int (zB r6)), zh b I7 L8)) dX12_takesLine_34 okX12_takes u_969 u_971 s_29 zc12 (rfl) (Nat.le_of_ble_eq_true rfl) arX12_takes rfl (Nat.le_of_ble_eq_true rfl) (h9) hR ?_
    show zA G (d + 3) mX12_takesLine 37 [some (.ref 56), some (.int ((L3 56 12).toInt32)), none] [.int (zB r6)] (zh b I7 L8) R
    refine zi_if_ne (tgt := 42) dX12_takesLine_37 (by decide) (fun c10 => ?_) (fun c10 => ?_)
    · have K := K.1 (zB_1 c10)
      refine zi_aload_n dX12_takesLine_42 rfl rfl ?_
      refine zg_getL (k := 12) dX12_takesLine_43 zc12 rfl (Nat.le_of_ble_eq_true rfl) (Nat.le_of_ble_eq_true rfl) u_818 rfl ?_
      refine zi_l2i dX12_takesLine_46 ?_
      refine zi_istore_n (ls' := [some (.ref 56), some (.int ((L3 56 12).toInt32)), some (.int ((L8 56 12).toInt32))]) dX12_takesLine_47 rfl (by decide) rfl ?_
      refine zi_aload_n dX12_takesLine_48 rfl rfl ?_
      refine zi_iconst (v := 0) dX12_takesLine_49 (by decide) ?_
      refine zi_iconst (v := 2) dX12_takesLine_50 (by decide) ?_
      obtain ⟨r11, I12, L13, h14, K⟩ := K
      refine zi_callV (N := mX12_takes) (av := [.int 0, .int 2]) (st := []) (R1 := (some (.int (zB r11)), zh b I12 L13)) dX12_takesLine_51 okX12_takes u_969 u_971 s_29 zc12 (rfl) (Nat.le_of_ble_eq_true rfl) arX12_takes rfl (Nat.le_of_ble_eq_true rfl) (h14) hR ?_
      show zA G (d + 3) mX12_takesLine 54 [some (.ref 56), some (.int ((L3 56 12).toInt32)), some (.int ((L8 56 12).toInt32))] [.int (zB r11)] (zh b I12 L13) R
      refine zi_if_ne (tgt := 59) dX12_takesLine_54 (by decide) (fun c15 => ?_) (fun c15 => ?_)
      · have K := K.1 (zB_1 c15)
        refine zi_aload_n dX12_takesLine_59 rfl rfl ?_
        refine zg_getF (k := 1) (v := .ref 58) dX12_takesLine_60 zc12 rfl (Nat.le_of_ble_eq_true rfl) (Nat.le_of_ble_eq_true rfl) u_807 rfl (rfl) ?_
        refine zi_bipush (v := 119) dX12_takesLine_63 (by decide) ?_
        refine zi_bipush (v := 8) dX12_takesLine_65 (by decide) ?_
        refine zi_iload_n dX12_takesLine_67 rfl rfl ?_
        refine zi_imul dX12_takesLine_68 ?_
        refine zi_iadd dX12_takesLine_69 ?_
        refine zi_iload_n dX12_takesLine_70 rfl rfl ?_
        refine zi_iadd dX12_takesLine_71 ?_
        refine zi_aload_n dX12_takesLine_72 rfl rfl ?_
        refine zg_getL (k := 12) dX12_takesLine_73 zc12 rfl (Nat.le_of_ble_eq_true rfl) (Nat.le_of_ble_eq_true rfl) u_818 rfl ?_
        refine zi_l2i dX12_takesLine_76 ?_
        have o16 := K.1
        have K := K.2
        refine zg_iastore dX12_takesLine_77 (rfl) (Nat.le_of_ble_eq_true rfl) o16 ?_
        refine zi_aload_n dX12_takesLine_78 rfl rfl ?_
        obtain ⟨r17, I18, L19, h20, K⟩ := K
        refine zi_callV (N := mX12_stops) (av := []) (st := []) (R1 := (some (.int (zB r17)), zh b I18 L19)) dX12_takesLine_79 okX12_stops u_973 u_975 s_30 zc12 (rfl) (Nat.le_of_ble_eq_true rfl) arX12_stops rfl (Nat.le_of_ble_eq_true rfl) (h20) hR ?_
        show zA G (d + 3) mX12_takesLine 82 [some (.ref 56), some (.int ((L3 56 12).toInt32)), some (.int ((L8 56 12).toInt32))] [.int (zB r17)] (zh b I18 L19) R
        subst K
        exact zi_ireturn dX12_takesLine_82 rfl (znB _)
      · have K := K.2 (zB_0 c15)
        refine zi_iconst (v := 0) dX12_takesLine_57 (by decide) ?_
        subst K
        exact zi_ireturn dX12_takesLine_58 rfl (by decide)
    · have K := K.2 (zB_0 c10)
      refine zi_iconst (v := 0) dX12_takesLine_40 (by decide) ?_
      subst K
      exact zi_ireturn dX12_takesLine_41 rfl (by decide)
  · have K := K.2 (zB_0 c5)
    refine zi_iconst (v := 0) dX12_takesLine_16 (by decide) ?_
    subst K
    exact zi_ireturn dX12_takesLine_17 rfl (by decide)
set_option maxRecDepth 100000 in
theorem tX12_takesAll_0 {G : zG} {d b : Nat} {I : Nat → Nat → Int32} {L : Nat → Nat → Int64} {R : zR}  (hR : zR0 R)
    (K : (∃ (r1 : Bool) (I2 : Nat → Nat → Int32) (L3 : Nat → Nat → Int64), zCall (d + 3) mX12_takesHill [.ref 56] (zh b (zup I 56 9 0) L) (some (.int (zB r1)), zh b I2 L3) ∧ ((r1 = true → (∃ (I6 : Nat → Nat → Int32) (L7 : Nat → Nat → Int64), zCall (d + 3) mX12_next [.ref 56] (zh b I2 L3) (none, zh b I6 L7) ∧ zA G (d + 4) mX12_takesAll 20 [some (.ref 56), some (.int 1), none] [] (zh b I6 L7) R)) ∧ (r1 = false → R = (some (.int (-1)), zh b I2 L3))))) :
    zA G (d + 4) mX12_takesAll 0 [some (.ref 56), none, none] [] (zh b I L) R := by
  refine zi_aload_n dX12_takesAll_0 rfl rfl ?_
  refine zi_iconst (v := 0) dX12_takesAll_1 (by decide) ?_
  refine zg_putI (k := 9) dX12_takesAll_2 zc12 rfl (Nat.le_of_ble_eq_true rfl) (Nat.le_of_ble_eq_true rfl) u_815 rfl rfl ?_
  refine zi_aload_n dX12_takesAll_5 rfl rfl ?_
  obtain ⟨r1, I2, L3, h4, K⟩ := K
  refine zi_callV (N := mX12_takesHill) (av := []) (st := []) (R1 := (some (.int (zB r1)), zh b I2 L3)) dX12_takesAll_6 okX12_takesHill u_948 u_950 s_27 zc12 (rfl) (Nat.le_of_ble_eq_true rfl) arX12_takesHill rfl (Nat.le_of_ble_eq_true rfl) (h4) hR ?_
  show zA G (d + 4) mX12_takesAll 9 [some (.ref 56), none, none] [.int (zB r1)] (zh b I2 L3) R
  refine zi_if_ne (tgt := 14) dX12_takesAll_9 (by decide) (fun c5 => ?_) (fun c5 => ?_)
  · have K := K.1 (zB_1 c5)
    refine zi_iconst (v := 1) dX12_takesAll_14 (by decide) ?_
    refine zi_istore_n (ls' := [some (.ref 56), some (.int 1), none]) dX12_takesAll_15 rfl (by decide) rfl ?_
    refine zi_aload_n dX12_takesAll_16 rfl rfl ?_
    obtain ⟨I6, L7, h8, K⟩ := K
    refine zi_callV (N := mX12_next) (av := []) (st := []) (R1 := (none, zh b I6 L7)) dX12_takesAll_17 okX12_next u_952 u_954 s_28 zc12 (rfl) (Nat.le_of_ble_eq_true rfl) arX12_next rfl (Nat.le_of_ble_eq_true rfl) (h8) hR ?_
    show zA G (d + 4) mX12_takesAll 20 [some (.ref 56), some (.int 1), none] [] (zh b I6 L7) R
    exact K
  · have K := K.2 (zB_0 c5)
    refine zi_iconst (v := (-1)) dX12_takesAll_12 (by decide) ?_
    subst K
    exact zi_ireturn dX12_takesAll_13 rfl rfl
set_option maxRecDepth 100000 in
theorem tX12_takesAll_20 {G : zG} {d b : Nat} {I : Nat → Nat → Int32} {L : Nat → Nat → Int64} {R : zR} {x1 : Int32} (hR : zR0 R)
    (K : (((I 56 11) = 0 → R = (some (.int x1), zh b I L)) ∧ (¬ (I 56 11) = 0 → ((¬ (I 56 11) = 1 → ((¬ (0 : Int32) = 0 → (∃ (I4 : Nat → Nat → Int32) (L5 : Nat → Nat → Int64), zCall (d + 3) mX12_next [.ref 56] (zh b I L) (none, zh b I4 L5) ∧ zA G (d + 4) mX12_takesAll 20 [some (.ref 56), some (.int (x1 + 1)), none] [] (zh b I4 L5) R)) ∧ ((0 : Int32) = 0 → R = (some (.int (-1)), zh b I L)))) ∧ ((I 56 11) = 1 → ((¬ (lg_cmp (L 56 12) 20332037) = 0 → ((¬ (lg_cmp (L 56 12) 254268868) = 0 → ((¬ (lg_cmp (L 56 12) 626473138) = 0 → ((¬ (lg_cmp (L 56 12) 402885) = 0 → ((¬ (0 : Int32) = 0 → (∃ (I12 : Nat → Nat → Int32) (L13 : Nat → Nat → Int64), zCall (d + 3) mX12_next [.ref 56] (zh b I L) (none, zh b I12 L13) ∧ zA G (d + 4) mX12_takesAll 20 [some (.ref 56), some (.int (x1 + 1)), none] [] (zh b I12 L13) R)) ∧ ((0 : Int32) = 0 → R = (some (.int (-1)), zh b I L)))) ∧ ((lg_cmp (L 56 12) 402885) = 0 → (∃ (r15 : Bool) (I16 : Nat → Nat → Int32) (L17 : Nat → Nat → Int64), zCall (d + 3) mX12_takesLine [.ref 56] (zh b I L) (some (.int (zB r15)), zh b I16 L17) ∧ ((r15 = false → ((¬ (0 : Int32) = 0 → (∃ (I21 : Nat → Nat → Int32) (L22 : Nat → Nat → Int64), zCall (d + 3) mX12_next [.ref 56] (zh b I16 L17) (none, zh b I21 L22) ∧ zA G (d + 4) mX12_takesAll 20 [some (.ref 56), some (.int (x1 + 1)), none] [] (zh b I21 L22) R)) ∧ ((0 : Int32) = 0 → R = (some (.int (-1)), zh b I16 L17)))) ∧ (r15 = true → ((¬ (1 : Int32) = 0 → (∃ (I25 : Nat → Nat → Int32) (L26 : Nat → Nat → Int64), zCall (d + 3) mX12_next [.ref 56] (zh b I16 L17) (none, zh b I25 L26) ∧ zA G (d + 4) mX12_takesAll 20 [some (.ref 56), some (.int (x1 + 1)), none] [] (zh b I25 L26) R)) ∧ ((1 : Int32) = 0 → R = (some (.int (-1)), zh b I16 L17))))))))) ∧ ((lg_cmp (L 56 12) 626473138) = 0 → (∃ (r28 : Bool) (I29 : Nat → Nat → Int32) (L30 : Nat → Nat → Int64), zCall (d + 3) mX12_takesRunner [.ref 56] (zh b I L) (some (.int (zB r28)), zh b I29 L30) ∧ ((r28 = false → ((¬ (0 : Int32) = 0 → (∃ (I34 : Nat → Nat → Int32) (L35 : Nat → Nat → Int64), zCall (d + 3) mX12_next [.ref 56] (zh b I29 L30) (none, zh b I34 L35) ∧ zA G (d + 4) mX12_takesAll 20 [some (.ref 56), some (.int (x1 + 1)), none] [] (zh b I34 L35) R)) ∧ ((0 : Int32) = 0 → R = (some (.int (-1)), zh b I29 L30)))) ∧ (r28 = true → ((¬ (1 : Int32) = 0 → (∃ (I38 : Nat → Nat → Int32) (L39 : Nat → Nat → Int64), zCall (d + 3) mX12_next [.ref 56] (zh b I29 L30) (none, zh b I38 L39) ∧ zA G (d + 4) mX12_takesAll 20 [some (.ref 56), some (.int (x1 + 1)), none] [] (zh b I38 L39) R)) ∧ ((1 : Int32) = 0 → R = (some (.int (-1)), zh b I29 L30))))))))) ∧ ((lg_cmp (L 56 12) 254268868) = 0 → (∃ (r41 : Bool) (I42 : Nat → Nat → Int32) (L43 : Nat → Nat → Int64), zCall (d + 3) mX12_takesCell [.ref 56, .int 1] (zh b I L) (some (.int (zB r41)), zh b I42 L43) ∧ ((r41 = false → ((¬ (0 : Int32) = 0 → (∃ (I47 : Nat → Nat → Int32) (L48 : Nat → Nat → Int64), zCall (d + 3) mX12_next [.ref 56] (zh b I42 L43) (none, zh b I47 L48) ∧ zA G (d + 4) mX12_takesAll 20 [some (.ref 56), some (.int (x1 + 1)), none] [] (zh b I47 L48) R)) ∧ ((0 : Int32) = 0 → R = (some (.int (-1)), zh b I42 L43)))) ∧ (r41 = true → ((¬ (1 : Int32) = 0 → (∃ (I51 : Nat → Nat → Int32) (L52 : Nat → Nat → Int64), zCall (d + 3) mX12_next [.ref 56] (zh b I42 L43) (none, zh b I51 L52) ∧ zA G (d + 4) mX12_takesAll 20 [some (.ref 56), some (.int (x1 + 1)), none] [] (zh b I51 L52) R)) ∧ ((1 : Int32) = 0 → R = (some (.int (-1)), zh b I42 L43))))))))) ∧ ((lg_cmp (L 56 12) 20332037) = 0 → (∃ (r54 : Bool) (I55 : Nat → Nat → Int32) (L56 : Nat → Nat → Int64), zCall (d + 3) mX12_takesCell [.ref 56, .int 0] (zh b I L) (some (.int (zB r54)), zh b I55 L56) ∧ ((r54 = false → ((¬ (0 : Int32) = 0 → (∃ (I60 : Nat → Nat → Int32) (L61 : Nat → Nat → Int64), zCall (d + 3) mX12_next [.ref 56] (zh b I55 L56) (none, zh b I60 L61) ∧ zA G (d + 4) mX12_takesAll 20 [some (.ref 56), some (.int (x1 + 1)), none] [] (zh b I60 L61) R)) ∧ ((0 : Int32) = 0 → R = (some (.int (-1)), zh b I55 L56)))) ∧ (r54 = true → ((¬ (1 : Int32) = 0 → (∃ (I64 : Nat → Nat → Int32) (L65 : Nat → Nat → Int64), zCall (d + 3) mX12_next [.ref 56] (zh b I55 L56) (none, zh b I64 L65) ∧ zA G (d + 4) mX12_takesAll 20 [some (.ref 56), some (.int (x1 + 1)), none] [] (zh b I64 L65) R)) ∧ ((1 : Int32) = 0 → R = (some (.int (-1)), zh b I55 L56))))))))))))) :
    zA G (d + 4) mX12_takesAll 20 [some (.ref 56), some (.int x1), none] [] (zh b I L) R := by
  refine zi_aload_n dX12_takesAll_20 rfl rfl ?_
  refine zg_getI (k := 11) dX12_takesAll_21 zc12 rfl (Nat.le_of_ble_eq_true rfl) (Nat.le_of_ble_eq_true rfl) u_817 rfl ?_
  refine zi_if_eq (tgt := 140) dX12_takesAll_24 (by decide) (fun c1 => ?_) (fun c1 => ?_)
  · have K := K.1 c1
    refine zi_iload_n dX12_takesAll_140 rfl rfl ?_
    subst K
    exact zi_ireturn dX12_takesAll_141 rfl rfl
  · have K := K.2 c1
    refine zi_aload_n dX12_takesAll_27 rfl rfl ?_
    refine zg_getI (k := 11) dX12_takesAll_28 zc12 rfl (Nat.le_of_ble_eq_true rfl) (Nat.le_of_ble_eq_true rfl) u_817 rfl ?_
    refine zi_iconst (v := 1) dX12_takesAll_31 (by decide) ?_
    refine zi_icmp_ne (tgt := 122) dX12_takesAll_32 (by decide) (fun c2 => ?_) (fun c2 => ?_)
    · have K := K.1 c2
      refine zi_iconst (v := 0) dX12_takesAll_122 (by decide) ?_
      refine zi_istore_n (ls' := [some (.ref 56), some (.int x1), some (.int 0)]) dX12_takesAll_123 rfl (by decide) rfl ?_
      refine zi_iload_n dX12_takesAll_124 rfl rfl ?_
      refine zi_if_ne (tgt := 130) dX12_takesAll_125 (by decide) (fun c3 => ?_) (fun c3 => ?_)
      · have K := K.1 c3
        refine zi_iinc (v := x1 + 1) (ls' := [some (.ref 56), some (.int (x1 + 1)), some (.int 0)]) dX12_takesAll_130 rfl (by decide) rfl rfl ?_
        refine zi_aload_n dX12_takesAll_133 rfl rfl ?_
        obtain ⟨I4, L5, h6, K⟩ := K
        refine zi_callV (N := mX12_next) (av := []) (st := []) (R1 := (none, zh b I4 L5)) dX12_takesAll_134 okX12_next u_952 u_954 s_28 zc12 (rfl) (Nat.le_of_ble_eq_true rfl) arX12_next rfl (Nat.le_of_ble_eq_true rfl) (h6) hR ?_
        show zA G (d + 4) mX12_takesAll 137 [some (.ref 56), some (.int (x1 + 1)), some (.int 0)] [] (zh b I4 L5) R
        refine zi_goto (tgt := 20) dX12_takesAll_137 (by decide) ?_
        refine zi_mask [true, true, false] rfl ?_
        exact K
      · have K := K.2 c3
        refine zi_iconst (v := (-1)) dX12_takesAll_128 (by decide) ?_
        subst K
        exact zi_ireturn dX12_takesAll_129 rfl rfl
    · have K := K.2 c2
      refine zi_aload_n dX12_takesAll_35 rfl rfl ?_
      refine zg_getL (k := 12) dX12_takesAll_36 zc12 rfl (Nat.le_of_ble_eq_true rfl) (Nat.le_of_ble_eq_true rfl) u_818 rfl ?_
      refine zi_ldc2 dX12_takesAll_39 u_977 ?_
      refine zi_lcmp dX12_takesAll_42 ?_
      refine zi_if_ne (tgt := 57) dX12_takesAll_43 (by decide) (fun c7 => ?_) (fun c7 => ?_)
      · have K := K.1 c7
        refine zi_aload_n dX12_takesAll_57 rfl rfl ?_
        refine zg_getL (k := 12) dX12_takesAll_58 zc12 rfl (Nat.le_of_ble_eq_true rfl) (Nat.le_of_ble_eq_true rfl) u_818 rfl ?_
        refine zi_ldc2 dX12_takesAll_61 u_982 ?_
        refine zi_lcmp dX12_takesAll_64 ?_
        refine zi_if_ne (tgt := 79) dX12_takesAll_65 (by decide) (fun c8 => ?_) (fun c8 => ?_)
        · have K := K.1 c8
          refine zi_aload_n dX12_takesAll_79 rfl rfl ?_
          refine zg_getL (k := 12) dX12_takesAll_80 zc12 rfl (Nat.le_of_ble_eq_true rfl) (Nat.le_of_ble_eq_true rfl) u_818 rfl ?_
          refine zi_ldc2 dX12_takesAll_83 u_983 ?_
          refine zi_lcmp dX12_takesAll_86 ?_
          refine zi_if_ne (tgt := 100) dX12_takesAll_87 (by decide) (fun c9 => ?_) (fun c9 => ?_)
          · have K := K.1 c9
            refine zi_aload_n dX12_takesAll_100 rfl rfl ?_
            refine zg_getL (k := 12) dX12_takesAll_101 zc12 rfl (Nat.le_of_ble_eq_true rfl) (Nat.le_of_ble_eq_true rfl) u_818 rfl ?_
            refine zi_ldc2 dX12_takesAll_104 u_988 ?_
            refine zi_lcmp dX12_takesAll_107 ?_
            refine zi_if_ne (tgt := 122) dX12_takesAll_108 (by decide) (fun c10 => ?_) (fun c10 => ?_)
            · have K := K.1 c10
              refine zi_iconst (v := 0) dX12_takesAll_122 (by decide) ?_
              refine zi_istore_n (ls' := [some (.ref 56), some (.int x1), some (.int 0)]) dX12_takesAll_123 rfl (by decide) rfl ?_
              refine zi_iload_n dX12_takesAll_124 rfl rfl ?_
              refine zi_if_ne (tgt := 130) dX12_takesAll_125 (by decide) (fun c11 => ?_) (fun c11 => ?_)
              · have K := K.1 c11
                refine zi_iinc (v := x1 + 1) (ls' := [some (.ref 56), some (.int (x1 + 1)), some (.int 0)]) dX12_takesAll_130 rfl (by decide) rfl rfl ?_
                refine zi_aload_n dX12_takesAll_133 rfl rfl ?_
                obtain ⟨I12, L13, h14, K⟩ := K
                refine zi_callV (N := mX12_next) (av := []) (st := []) (R1 := (none, zh b I12 L13)) dX12_takesAll_134 okX12_next u_952 u_954 s_28 zc12 (rfl) (Nat.le_of_ble_eq_true rfl) arX12_next rfl (Nat.le_of_ble_eq_true rfl) (h14) hR ?_
                show zA G (d + 4) mX12_takesAll 137 [some (.ref 56), some (.int (x1 + 1)), some (.int 0)] [] (zh b I12 L13) R
                refine zi_goto (tgt := 20) dX12_takesAll_137 (by decide) ?_
                refine zi_mask [true, true, false] rfl ?_
                exact K
              · have K := K.2 c11
                refine zi_iconst (v := (-1)) dX12_takesAll_128 (by decide) ?_
                subst K
                exact zi_ireturn dX12_takesAll_129 rfl rfl
            · have K := K.2 c10
              refine zi_aload_n dX12_takesAll_111 rfl rfl ?_
              obtain ⟨r15, I16, L17, h18, K⟩ := K
              refine zi_callV (N := mX12_takesLine) (av := []) (st := []) (R1 := (some (.int (zB r15)), zh b I16 L17)) dX12_takesAll_112 okX12_takesLine u_989 u_991 s_33 zc12 (rfl) (Nat.le_of_ble_eq_true rfl) arX12_takesLine rfl (Nat.le_of_ble_eq_true rfl) (h18) hR ?_
              show zA G (d + 4) mX12_takesAll 115 [some (.ref 56), some (.int x1), none] [.int (zB r15)] (zh b I16 L17) R
              refine zi_if_eq (tgt := 122) dX12_takesAll_115 (by decide) (fun c19 => ?_) (fun c19 => ?_)
              · have K := K.1 (zB_0 c19)
                refine zi_iconst (v := 0) dX12_takesAll_122 (by decide) ?_
                refine zi_istore_n (ls' := [some (.ref 56), some (.int x1), some (.int 0)]) dX12_takesAll_123 rfl (by decide) rfl ?_
                refine zi_iload_n dX12_takesAll_124 rfl rfl ?_
                refine zi_if_ne (tgt := 130) dX12_takesAll_125 (by decide) (fun c20 => ?_) (fun c20 => ?_)
                · have K := K.1 c20
                  refine zi_iinc (v := x1 + 1) (ls' := [some (.ref 56), some (.int (x1 + 1)), some (.int 0)]) dX12_takesAll_130 rfl (by decide) rfl rfl ?_
                  refine zi_aload_n dX12_takesAll_133 rfl rfl ?_
                  obtain ⟨I21, L22, h23, K⟩ := K
                  refine zi_callV (N := mX12_next) (av := []) (st := []) (R1 := (none, zh b I21 L22)) dX12_takesAll_134 okX12_next u_952 u_954 s_28 zc12 (rfl) (Nat.le_of_ble_eq_true rfl) arX12_next rfl (Nat.le_of_ble_eq_true rfl) (h23) hR ?_
                  show zA G (d + 4) mX12_takesAll 137 [some (.ref 56), some (.int (x1 + 1)), some (.int 0)] [] (zh b I21 L22) R
                  refine zi_goto (tgt := 20) dX12_takesAll_137 (by decide) ?_
                  refine zi_mask [true, true, false] rfl ?_
                  exact K
                · have K := K.2 c20
                  refine zi_iconst (v := (-1)) dX12_takesAll_128 (by decide) ?_
                  subst K
                  exact zi_ireturn dX12_takesAll_129 rfl rfl
              · have K := K.2 (zB_1 c19)
                refine zi_iconst (v := 1) dX12_takesAll_118 (by decide) ?_
                refine zi_goto (tgt := 123) dX12_takesAll_119 (by decide) ?_
                refine zi_istore_n (ls' := [some (.ref 56), some (.int x1), some (.int 1)]) dX12_takesAll_123 rfl (by decide) rfl ?_
                refine zi_iload_n dX12_takesAll_124 rfl rfl ?_
                refine zi_if_ne (tgt := 130) dX12_takesAll_125 (by decide) (fun c24 => ?_) (fun c24 => ?_)
                · have K := K.1 c24
                  refine zi_iinc (v := x1 + 1) (ls' := [some (.ref 56), some (.int (x1 + 1)), some (.int 1)]) dX12_takesAll_130 rfl (by decide) rfl rfl ?_
                  refine zi_aload_n dX12_takesAll_133 rfl rfl ?_
                  obtain ⟨I25, L26, h27, K⟩ := K
                  refine zi_callV (N := mX12_next) (av := []) (st := []) (R1 := (none, zh b I25 L26)) dX12_takesAll_134 okX12_next u_952 u_954 s_28 zc12 (rfl) (Nat.le_of_ble_eq_true rfl) arX12_next rfl (Nat.le_of_ble_eq_true rfl) (h27) hR ?_
                  show zA G (d + 4) mX12_takesAll 137 [some (.ref 56), some (.int (x1 + 1)), some (.int 1)] [] (zh b I25 L26) R
                  refine zi_goto (tgt := 20) dX12_takesAll_137 (by decide) ?_
                  refine zi_mask [true, true, false] rfl ?_
                  exact K
                · have K := K.2 c24
                  refine zi_iconst (v := (-1)) dX12_takesAll_128 (by decide) ?_
                  subst K
                  exact zi_ireturn dX12_takesAll_129 rfl rfl
          · have K := K.2 c9
            refine zi_aload_n dX12_takesAll_90 rfl rfl ?_
            obtain ⟨r28, I29, L30, h31, K⟩ := K
            refine zi_callV (N := mX12_takesRunner) (av := []) (st := []) (R1 := (some (.int (zB r28)), zh b I29 L30)) dX12_takesAll_91 okX12_takesRunner u_984 u_986 s_32 zc12 (rfl) (Nat.le_of_ble_eq_true rfl) arX12_takesRunner rfl (Nat.le_of_ble_eq_true rfl) (h31) hR ?_
            show zA G (d + 4) mX12_takesAll 94 [some (.ref 56), some (.int x1), none] [.int (zB r28)] (zh b I29 L30) R
            refine zi_if_eq (tgt := 122) dX12_takesAll_94 (by decide) (fun c32 => ?_) (fun c32 => ?_)
            · have K := K.1 (zB_0 c32)
              refine zi_iconst (v := 0) dX12_takesAll_122 (by decide) ?_
              refine zi_istore_n (ls' := [some (.ref 56), some (.int x1), some (.int 0)]) dX12_takesAll_123 rfl (by decide) rfl ?_
              refine zi_iload_n dX12_takesAll_124 rfl rfl ?_
              refine zi_if_ne (tgt := 130) dX12_takesAll_125 (by decide) (fun c33 => ?_) (fun c33 => ?_)
              · have K := K.1 c33
                refine zi_iinc (v := x1 + 1) (ls' := [some (.ref 56), some (.int (x1 + 1)), some (.int 0)]) dX12_takesAll_130 rfl (by decide) rfl rfl ?_
                refine zi_aload_n dX12_takesAll_133 rfl rfl ?_
                obtain ⟨I34, L35, h36, K⟩ := K
                refine zi_callV (N := mX12_next) (av := []) (st := []) (R1 := (none, zh b I34 L35)) dX12_takesAll_134 okX12_next u_952 u_954 s_28 zc12 (rfl) (Nat.le_of_ble_eq_true rfl) arX12_next rfl (Nat.le_of_ble_eq_true rfl) (h36) hR ?_
                show zA G (d + 4) mX12_takesAll 137 [some (.ref 56), some (.int (x1 + 1)), some (.int 0)] [] (zh b I34 L35) R
                refine zi_goto (tgt := 20) dX12_takesAll_137 (by decide) ?_
                refine zi_mask [true, true, false] rfl ?_
                exact K
              · have K := K.2 c33
                refine zi_iconst (v := (-1)) dX12_takesAll_128 (by decide) ?_
                subst K
                exact zi_ireturn dX12_takesAll_129 rfl rfl
            · have K := K.2 (zB_1 c32)
              refine zi_goto (tgt := 118) dX12_takesAll_97 (by decide) ?_
              refine zi_iconst (v := 1) dX12_takesAll_118 (by decide) ?_
              refine zi_goto (tgt := 123) dX12_takesAll_119 (by decide) ?_
              refine zi_istore_n (ls' := [some (.ref 56), some (.int x1), some (.int 1)]) dX12_takesAll_123 rfl (by decide) rfl ?_
              refine zi_iload_n dX12_takesAll_124 rfl rfl ?_
              refine zi_if_ne (tgt := 130) dX12_takesAll_125 (by decide) (fun c37 => ?_) (fun c37 => ?_)
              · have K := K.1 c37
                refine zi_iinc (v := x1 + 1) (ls' := [some (.ref 56), some (.int (x1 + 1)), some (.int 1)]) dX12_takesAll_130 rfl (by decide) rfl rfl ?_
                refine zi_aload_n dX12_takesAll_133 rfl rfl ?_
                obtain ⟨I38, L39, h40, K⟩ := K
                refine zi_callV (N := mX12_next) (av := []) (st := []) (R1 := (none, zh b I38 L39)) dX12_takesAll_134 okX12_next u_952 u_954 s_28 zc12 (rfl) (Nat.le_of_ble_eq_true rfl) arX12_next rfl (Nat.le_of_ble_eq_true rfl) (h40) hR ?_
                show zA G (d + 4) mX12_takesAll 137 [some (.ref 56), some (.int (x1 + 1)), some (.int 1)] [] (zh b I38 L39) R
                refine zi_goto (tgt := 20) dX12_takesAll_137 (by decide) ?_
                refine zi_mask [true, true, false] rfl ?_
                exact K
              · have K := K.2 c37
                refine zi_iconst (v := (-1)) dX12_takesAll_128 (by decide) ?_
                subst K
                exact zi_ireturn dX12_takesAll_129 rfl rfl
        · have K := K.2 c8
          refine zi_aload_n dX12_takesAll_68 rfl rfl ?_
          refine zi_iconst (v := 1) dX12_takesAll_69 (by decide) ?_
          obtain ⟨r41, I42, L43, h44, K⟩ := K
          refine zi_callV (N := mX12_takesCell) (av := [.int 1]) (st := []) (R1 := (some (.int (zB r41)), zh b I42 L43)) dX12_takesAll_70 okX12_takesCell u_978 u_980 s_31 zc12 (rfl) (Nat.le_of_ble_eq_true rfl) arX12_takesCell rfl (Nat.le_of_ble_eq_true rfl) (h44) hR ?_
          show zA G (d + 4) mX12_takesAll 73 [some (.ref 56), some (.int x1), none] [.int (zB r41)] (zh b I42 L43) R
          refine zi_if_eq (tgt := 122) dX12_takesAll_73 (by decide) (fun c45 => ?_) (fun c45 => ?_)
          · have K := K.1 (zB_0 c45)
            refine zi_iconst (v := 0) dX12_takesAll_122 (by decide) ?_
            refine zi_istore_n (ls' := [some (.ref 56), some (.int x1), some (.int 0)]) dX12_takesAll_123 rfl (by decide) rfl ?_
            refine zi_iload_n dX12_takesAll_124 rfl rfl ?_
            refine zi_if_ne (tgt := 130) dX12_takesAll_125 (by decide) (fun c46 => ?_) (fun c46 => ?_)
            · have K := K.1 c46
              refine zi_iinc (v := x1 + 1) (ls' := [some (.ref 56), some (.int (x1 + 1)), some (.int 0)]) dX12_takesAll_130 rfl (by decide) rfl rfl ?_
              refine zi_aload_n dX12_takesAll_133 rfl rfl ?_
              obtain ⟨I47, L48, h49, K⟩ := K
              refine zi_callV (N := mX12_next) (av := []) (st := []) (R1 := (none, zh b I47 L48)) dX12_takesAll_134 okX12_next u_952 u_954 s_28 zc12 (rfl) (Nat.le_of_ble_eq_true rfl) arX12_next rfl (Nat.le_of_ble_eq_true rfl) (h49) hR ?_
              show zA G (d + 4) mX12_takesAll 137 [some (.ref 56), some (.int (x1 + 1)), some (.int 0)] [] (zh b I47 L48) R
              refine zi_goto (tgt := 20) dX12_takesAll_137 (by decide) ?_
              refine zi_mask [true, true, false] rfl ?_
              exact K
            · have K := K.2 c46
              refine zi_iconst (v := (-1)) dX12_takesAll_128 (by decide) ?_
              subst K
              exact zi_ireturn dX12_takesAll_129 rfl rfl
          · have K := K.2 (zB_1 c45)
            refine zi_goto (tgt := 118) dX12_takesAll_76 (by decide) ?_
            refine zi_iconst (v := 1) dX12_takesAll_118 (by decide) ?_
            refine zi_goto (tgt := 123) dX12_takesAll_119 (by decide) ?_
            refine zi_istore_n (ls' := [some (.ref 56), some (.int x1), some (.int 1)]) dX12_takesAll_123 rfl (by decide) rfl ?_
            refine zi_iload_n dX12_takesAll_124 rfl rfl ?_
            refine zi_if_ne (tgt := 130) dX12_takesAll_125 (by decide) (fun c50 => ?_) (fun c50 => ?_)
            · have K := K.1 c50
              refine zi_iinc (v := x1 + 1) (ls' := [some (.ref 56), some (.int (x1 + 1)), some (.int 1)]) dX12_takesAll_130 rfl (by decide) rfl rfl ?_
              refine zi_aload_n dX12_takesAll_133 rfl rfl ?_
              obtain ⟨I51, L52, h53, K⟩ := K
              refine zi_callV (N := mX12_next) (av := []) (st := []) (R1 := (none, zh b I51 L52)) dX12_takesAll_134 okX12_next u_952 u_954 s_28 zc12 (rfl) (Nat.le_of_ble_eq_true rfl) arX12_next rfl (Nat.le_of_ble_eq_true rfl) (h53) hR ?_
              show zA G (d + 4) mX12_takesAll 137 [some (.ref 56), some (.int (x1 + 1)), some (.int 1)] [] (zh b I51 L52) R
              refine zi_goto (tgt := 20) dX12_takesAll_137 (by decide) ?_
              refine zi_mask [true, true, false] rfl ?_
              exact K
            · have K := K.2 c50
              refine zi_iconst (v := (-1)) dX12_takesAll_128 (by decide) ?_
              subst K
              exact zi_ireturn dX12_takesAll_129 rfl rfl
      · have K := K.2 c7
        refine zi_aload_n dX12_takesAll_46 rfl rfl ?_
        refine zi_iconst (v := 0) dX12_takesAll_47 (by decide) ?_
        obtain ⟨r54, I55, L56, h57, K⟩ := K
        refine zi_callV (N := mX12_takesCell) (av := [.int 0]) (st := []) (R1 := (some (.int (zB r54)), zh b I55 L56)) dX12_takesAll_48 okX12_takesCell u_978 u_980 s_31 zc12 (rfl) (Nat.le_of_ble_eq_true rfl) arX12_takesCell rfl (Nat.le_of_ble_eq_true rfl) (h57) hR ?_
        show zA G (d + 4) mX12_takesAll 51 [some (.ref 56), some (.int x1), none] [.int (zB r54)] (zh b I55 L56) R
        refine zi_if_eq (tgt := 122) dX12_takesAll_51 (by decide) (fun c58 => ?_) (fun c58 => ?_)
        · have K := K.1 (zB_0 c58)
          refine zi_iconst (v := 0) dX12_takesAll_122 (by decide) ?_
          refine zi_istore_n (ls' := [some (.ref 56), some (.int x1), some (.int 0)]) dX12_takesAll_123 rfl (by decide) rfl ?_
          refine zi_iload_n dX12_takesAll_124 rfl rfl ?_
          refine zi_if_ne (tgt := 130) dX12_takesAll_125 (by decide) (fun c59 => ?_) (fun c59 => ?_)
          · have K := K.1 c59
            refine zi_iinc (v := x1 + 1) (ls' := [some (.ref 56), some (.int (x1 + 1)), some (.int 0)]) dX12_takesAll_130 rfl (by decide) rfl rfl ?_
            refine zi_aload_n dX12_takesAll_133 rfl rfl ?_
            obtain ⟨I60, L61, h62, K⟩ := K
            refine zi_callV (N := mX12_next) (av := []) (st := []) (R1 := (none, zh b I60 L61)) dX12_takesAll_134 okX12_next u_952 u_954 s_28 zc12 (rfl) (Nat.le_of_ble_eq_true rfl) arX12_next rfl (Nat.le_of_ble_eq_true rfl) (h62) hR ?_
            show zA G (d + 4) mX12_takesAll 137 [some (.ref 56), some (.int (x1 + 1)), some (.int 0)] [] (zh b I60 L61) R
            refine zi_goto (tgt := 20) dX12_takesAll_137 (by decide) ?_
            refine zi_mask [true, true, false] rfl ?_
            exact K
          · have K := K.2 c59
            refine zi_iconst (v := (-1)) dX12_takesAll_128 (by decide) ?_
            subst K
            exact zi_ireturn dX12_takesAll_129 rfl rfl
        · have K := K.2 (zB_1 c58)
          refine zi_goto (tgt := 118) dX12_takesAll_54 (by decide) ?_
          refine zi_iconst (v := 1) dX12_takesAll_118 (by decide) ?_
          refine zi_goto (tgt := 123) dX12_takesAll_119 (by decide) ?_
          refine zi_istore_n (ls' := [some (.ref 56), some (.int x1), some (.int 1)]) dX12_takesAll_123 rfl (by decide) rfl ?_
          refine zi_iload_n dX12_takesAll_124 rfl rfl ?_
          refine zi_if_ne (tgt := 130) dX12_takesAll_125 (by decide) (fun c63 => ?_) (fun c63 => ?_)
          · have K := K.1 c63
            refine zi_iinc (v := x1 + 1) (ls' := [some (.ref 56), some (.int (x1 + 1)), some (.int 1)]) dX12_takesAll_130 rfl (by decide) rfl rfl ?_
            refine zi_aload_n dX12_takesAll_133 rfl rfl ?_
            obtain ⟨I64, L65, h66, K⟩ := K
            refine zi_callV (N := mX12_next) (av := []) (st := []) (R1 := (none, zh b I64 L65)) dX12_takesAll_134 okX12_next u_952 u_954 s_28 zc12 (rfl) (Nat.le_of_ble_eq_true rfl) arX12_next rfl (Nat.le_of_ble_eq_true rfl) (h66) hR ?_
            show zA G (d + 4) mX12_takesAll 137 [some (.ref 56), some (.int (x1 + 1)), some (.int 1)] [] (zh b I64 L65) R
            refine zi_goto (tgt := 20) dX12_takesAll_137 (by decide) ?_
            refine zi_mask [true, true, false] rfl ?_
            exact K
          · have K := K.2 c63
            refine zi_iconst (v := (-1)) dX12_takesAll_128 (by decide) ?_
            subst K
            exact zi_ireturn dX12_takesAll_129 rfl rfl
set_option maxRecDepth 100000 in
theorem tX12_read_0 {G : zG} {d b : Nat} {I : Nat → Nat → Int32} {L : Nat → Nat → Int64} {R : zR}  (hR : zR0 R)
    (K : (∃ (r1 : Int32) (I2 : Nat → Nat → Int32) (L3 : Nat → Nat → Int64), zCall (d + 4) mX12_takesAll [.ref 56] (zh b I L) (some (.int r1), zh b I2 L3) ∧ ((0 ≤ r1 → (∃ (I6 : Nat → Nat → Int32), zCall (d + 4) mX12_copy [.ref 58, .int 0, .ref 57, .int 0] (zh b I2 L3) (none, zh b I6 L3) ∧ R = (some (.int r1), zh b I6 L3))) ∧ (¬ 0 ≤ r1 → R = (some (.int ((-10) - (I2 56 10))), zh b I2 L3))))) :
    zA G (d + 5) mX12_read 0 [some (.ref 56), none] [] (zh b I L) R := by
  refine zi_aload_n dX12_read_0 rfl rfl ?_
  obtain ⟨r1, I2, L3, h4, K⟩ := K
  refine zi_callV (N := mX12_takesAll) (av := []) (st := []) (R1 := (some (.int r1), zh b I2 L3)) dX12_read_1 okX12_takesAll u_944 u_946 s_26 zc12 (rfl) (Nat.le_of_ble_eq_true rfl) arX12_takesAll rfl (Nat.le_of_ble_eq_true rfl) (h4) hR ?_
  show zA G (d + 5) mX12_read 4 [some (.ref 56), none] [.int r1] (zh b I2 L3) R
  refine zi_istore_n (ls' := [some (.ref 56), some (.int r1)]) dX12_read_4 rfl (by decide) rfl ?_
  refine zi_iload_n dX12_read_5 rfl rfl ?_
  refine zi_if_ge (tgt := 17) dX12_read_6 (by decide) (fun c5 => ?_) (fun c5 => ?_)
  · have K := K.1 c5
    refine zi_aload_n dX12_read_17 rfl rfl ?_
    refine zg_getF (k := 1) (v := .ref 58) dX12_read_18 zc12 rfl (Nat.le_of_ble_eq_true rfl) (Nat.le_of_ble_eq_true rfl) u_807 rfl (rfl) ?_
    refine zi_iconst (v := 0) dX12_read_21 (by decide) ?_
    refine zi_aload_n dX12_read_22 rfl rfl ?_
    refine zg_getF (k := 0) (v := .ref 57) dX12_read_23 zc12 rfl (Nat.le_of_ble_eq_true rfl) (Nat.le_of_ble_eq_true rfl) u_806 rfl (rfl) ?_
    refine zi_iconst (v := 0) dX12_read_26 (by decide) ?_
    obtain ⟨I6, h7, K⟩ := K
    refine zi_callS (N := mX12_copy) (av := [.ref 58, .int 0, .ref 57, .int 0]) (st := []) (R1 := (none, zh b I6 L3)) dX12_read_27 okX12_copy u_993 u_994 arX12_copy rfl (Nat.le_of_ble_eq_true rfl) (h7) hR ?_
    show zA G (d + 5) mX12_read 30 [some (.ref 56), some (.int r1)] [] (zh b I6 L3) R
    refine zi_iload_n dX12_read_30 rfl rfl ?_
    subst K
    exact zi_ireturn dX12_read_31 rfl rfl
  · have K := K.2 c5
    refine zi_bipush (v := (-10)) dX12_read_9 (by decide) ?_
    refine zi_aload_n dX12_read_11 rfl rfl ?_
    refine zg_getI (k := 10) dX12_read_12 zc12 rfl (Nat.le_of_ble_eq_true rfl) (Nat.le_of_ble_eq_true rfl) u_816 rfl ?_
    refine zi_isub dX12_read_15 ?_
    subst K
    exact zi_ireturn dX12_read_16 rfl rfl
set_option maxRecDepth 100000 in
theorem tX12_copy_0 {G : zG} {d b : Nat} {I : Nat → Nat → Int32} {L : Nat → Nat → Int64} {R : zR} {x1 : Int32} {x3 : Int32} {a c n m : Nat} (ha : zsh a = (100, n)) (la : a < 74) (hc : zsh c = (100, m)) (lc : c < 74)
    (K : zA G d mX12_copy 3 [some (.ref a), some (.int x1), some (.ref c), some (.int x3), some (.int 0)] [] (zh b I L) R) :
    zA G d mX12_copy 0 [some (.ref a), some (.int x1), some (.ref c), some (.int x3), none] [] (zh b I L) R := by
  refine zi_iconst (v := 0) dX12_copy_0 (by decide) ?_
  refine zi_istore (ls' := [some (.ref a), some (.int x1), some (.ref c), some (.int x3), some (.int 0)]) dX12_copy_1 (by decide) rfl ?_
  exact K
set_option maxRecDepth 100000 in
theorem tX12_copy_3 {G : zG} {d b : Nat} {I : Nat → Nat → Int32} {L : Nat → Nat → Int64} {R : zR} {x1 : Int32} {x3 : Int32} {x4 : Int32} {a c n m : Nat} (ha : zsh a = (100, n)) (la : a < 74) (hc : zsh c = (100, m)) (lc : c < 74)
    (K : ((463 ≤ x4 → R = (none, zh b I L)) ∧ (¬ 463 ≤ x4 → (vp_in (x1 + x4) n ∧ (vp_in (x3 + x4) m ∧ zA G d mX12_copy 3 [some (.ref a), some (.int x1), some (.ref c), some (.int x3), some (.int (x4 + 1))] [] (zh b (zup I c (zx (x3 + x4)) (I a (zx (x1 + x4)))) L) R))))) :
    zA G d mX12_copy 3 [some (.ref a), some (.int x1), some (.ref c), some (.int x3), some (.int x4)] [] (zh b I L) R := by
  refine zi_iload dX12_copy_3 rfl ?_
  refine zi_sipush (v := 463) dX12_copy_5 (by decide) ?_
  refine zi_icmp_ge (tgt := 29) dX12_copy_8 (by decide) (fun c1 => ?_) (fun c1 => ?_)
  · have K := K.1 c1
    subst K
    exact zi_return dX12_copy_29 rfl
  · have K := K.2 c1
    refine zi_aload_n dX12_copy_11 rfl rfl ?_
    refine zi_iload_n dX12_copy_12 rfl rfl ?_
    refine zi_iload dX12_copy_13 rfl ?_
    refine zi_iadd dX12_copy_15 ?_
    refine zi_aload_n dX12_copy_16 rfl rfl ?_
    refine zi_iload_n dX12_copy_17 rfl rfl ?_
    refine zi_iload dX12_copy_18 rfl ?_
    refine zi_iadd dX12_copy_20 ?_
    have o2 := K.1
    have K := K.2
    refine zg_iaload dX12_copy_21 (ha) la o2 ?_
    have o3 := K.1
    have K := K.2
    refine zg_iastore dX12_copy_22 (hc) lc o3 ?_
    refine zi_iinc (v := x4 + 1) (ls' := [some (.ref a), some (.int x1), some (.ref c), some (.int x3), some (.int (x4 + 1))]) dX12_copy_23 rfl (by decide) rfl rfl ?_
    refine zi_goto (tgt := 3) dX12_copy_26 (by decide) ?_
    exact K
set_option maxRecDepth 100000 in
theorem tX12_walk_0 {G : zG} {d b : Nat} {I : Nat → Nat → Int32} {L : Nat → Nat → Int64} {R : zR} {x1 : Int32} {x2 : Int32}
    (K : (vp_in (107 + x1) 463 ∧ (∀ I2 : Nat → Nat → Int32, I2 = (zup I 63 0 (I 57 (zx (107 + x1)))) → (vp_in (113 + x1) 463 ∧ (∀ I4 : Nat → Nat → Int32, I4 = (zup I2 65 0 (I2 57 (zx (113 + x1)))) → zA G (d + 2) mX12_walk 35 [some (.ref 56), some (.int x1), some (.int x2), some (.int 0), some (.int 0), none, none] [] (zh b I4 L) R))))) :
    zA G (d + 2) mX12_walk 0 [some (.ref 56), some (.int x1), some (.int x2), none, none, none, none] [] (zh b I L) R := by
  refine zi_aload_n dX12_walk_0 rfl rfl ?_
  refine zg_getF (k := 13) (v := .ref 63) dX12_walk_1 zc12 rfl (Nat.le_of_ble_eq_true rfl) (Nat.le_of_ble_eq_true rfl) u_819 rfl (rfl) ?_
  refine zi_iconst (v := 0) dX12_walk_4 (by decide) ?_
  refine zi_aload_n dX12_walk_5 rfl rfl ?_
  refine zg_getF (k := 0) (v := .ref 57) dX12_walk_6 zc12 rfl (Nat.le_of_ble_eq_true rfl) (Nat.le_of_ble_eq_true rfl) u_806 rfl (rfl) ?_
  refine zi_bipush (v := 107) dX12_walk_9 (by decide) ?_
  refine zi_iload_n dX12_walk_11 rfl rfl ?_
  refine zi_iadd dX12_walk_12 ?_
  have o1 := K.1
  have K := K.2
  refine zg_iaload dX12_walk_13 (rfl) (Nat.le_of_ble_eq_true rfl) o1 ?_
  refine zg_iastore dX12_walk_14 (rfl) (Nat.le_of_ble_eq_true rfl) (zvi (by decide)) ?_
  show zA G (d + 2) mX12_walk 15 [some (.ref 56), some (.int x1), some (.int x2), none, none, none, none] [] (zh b (zup I 63 0 (I 57 (zx (107 + x1)))) L) R
  refine zi_name (fun I2 hI2 => ?_)
  have K := K I2 hI2
  refine zi_aload_n dX12_walk_15 rfl rfl ?_
  refine zg_getF (k := 15) (v := .ref 65) dX12_walk_16 zc12 rfl (Nat.le_of_ble_eq_true rfl) (Nat.le_of_ble_eq_true rfl) u_821 rfl (rfl) ?_
  refine zi_iconst (v := 0) dX12_walk_19 (by decide) ?_
  refine zi_aload_n dX12_walk_20 rfl rfl ?_
  refine zg_getF (k := 0) (v := .ref 57) dX12_walk_21 zc12 rfl (Nat.le_of_ble_eq_true rfl) (Nat.le_of_ble_eq_true rfl) u_806 rfl (rfl) ?_
  refine zi_bipush (v := 113) dX12_walk_24 (by decide) ?_
  refine zi_iload_n dX12_walk_26 rfl rfl ?_
  refine zi_iadd dX12_walk_27 ?_
  have o3 := K.1
  have K := K.2
  refine zg_iaload dX12_walk_28 (rfl) (Nat.le_of_ble_eq_true rfl) o3 ?_
  refine zg_iastore dX12_walk_29 (rfl) (Nat.le_of_ble_eq_true rfl) (zvi (by decide)) ?_
  show zA G (d + 2) mX12_walk 30 [some (.ref 56), some (.int x1), some (.int x2), none, none, none, none] [] (zh b (zup I2 65 0 (I2 57 (zx (113 + x1)))) L) R
  refine zi_name (fun I4 hI4 => ?_)
  have K := K I4 hI4
  refine zi_iconst (v := 0) dX12_walk_30 (by decide) ?_
  refine zi_istore_n (ls' := [some (.ref 56), some (.int x1), some (.int x2), some (.int 0), none, none, none]) dX12_walk_31 rfl (by decide) rfl ?_
  refine zi_iconst (v := 0) dX12_walk_32 (by decide) ?_
  refine zi_istore (ls' := [some (.ref 56), some (.int x1), some (.int x2), some (.int 0), some (.int 0), none, none]) dX12_walk_33 (by decide) rfl ?_
  exact K
set_option maxRecDepth 100000 in
theorem tX12_walk_35 {G : zG} {d b : Nat} {I : Nat → Nat → Int32} {L : Nat → Nat → Int64} {R : zR} {x1 : Int32} {x2 : Int32} {x3 : Int32} {x4 : Int32}
    (K : (((I 57 0) ≤ x4 → R = (none, zh b I L)) ∧ (¬ (I 57 0) ≤ x4 → ((x4 < x2 → (vp_in (101 + x1) 463 ∧ zA G (d + 2) mX12_walk 67 [some (.ref 56), some (.int x1), some (.int x2), some (.int x3), some (.int x4), some (.int (I 57 (zx (101 + x1)))), none] [] (zh b I L) R)) ∧ (¬ x4 < x2 → zA G (d + 2) mX12_walk 67 [some (.ref 56), some (.int x1), some (.int x2), some (.int x3), some (.int x4), some (.int 2), none] [] (zh b I L) R))))) :
    zA G (d + 2) mX12_walk 35 [some (.ref 56), some (.int x1), some (.int x2), some (.int x3), some (.int x4), none, none] [] (zh b I L) R := by
  refine zi_iload dX12_walk_35 rfl ?_
  refine zi_aload_n dX12_walk_37 rfl rfl ?_
  refine zg_getF (k := 0) (v := .ref 57) dX12_walk_38 zc12 rfl (Nat.le_of_ble_eq_true rfl) (Nat.le_of_ble_eq_true rfl) u_806 rfl (rfl) ?_
  refine zi_iconst (v := 0) dX12_walk_41 (by decide) ?_
  refine zg_iaload dX12_walk_42 (rfl) (Nat.le_of_ble_eq_true rfl) (zvi (by decide)) ?_
  show zA G (d + 2) mX12_walk 43 [some (.ref 56), some (.int x1), some (.int x2), some (.int x3), some (.int x4), none, none] [.int (I 57 0), .int x4] (zh b I L) R
  refine zi_icmp_ge (tgt := 238) dX12_walk_43 (by decide) (fun c1 => ?_) (fun c1 => ?_)
  · have K := K.1 c1
    subst K
    exact zi_return dX12_walk_238 rfl
  · have K := K.2 c1
    refine zi_iload dX12_walk_46 rfl ?_
    refine zi_iload_n dX12_walk_48 rfl rfl ?_
    refine zi_icmp_lt (tgt := 56) dX12_walk_49 (by decide) (fun c2 => ?_) (fun c2 => ?_)
    · have K := K.1 c2
      refine zi_aload_n dX12_walk_56 rfl rfl ?_
      refine zg_getF (k := 0) (v := .ref 57) dX12_walk_57 zc12 rfl (Nat.le_of_ble_eq_true rfl) (Nat.le_of_ble_eq_true rfl) u_806 rfl (rfl) ?_
      refine zi_bipush (v := 101) dX12_walk_60 (by decide) ?_
      refine zi_iload_n dX12_walk_62 rfl rfl ?_
      refine zi_iadd dX12_walk_63 ?_
      have o3 := K.1
      have K := K.2
      refine zg_iaload dX12_walk_64 (rfl) (Nat.le_of_ble_eq_true rfl) o3 ?_
      refine zi_istore (ls' := [some (.ref 56), some (.int x1), some (.int x2), some (.int x3), some (.int x4), some (.int (I 57 (zx (101 + x1)))), none]) dX12_walk_65 (by decide) rfl ?_
      exact K
    · have K := K.2 c2
      refine zi_iconst (v := 2) dX12_walk_52 (by decide) ?_
      refine zi_goto (tgt := 65) dX12_walk_53 (by decide) ?_
      refine zi_istore (ls' := [some (.ref 56), some (.int x1), some (.int x2), some (.int x3), some (.int x4), some (.int 2), none]) dX12_walk_65 (by decide) rfl ?_
      exact K
set_option maxRecDepth 100000 in
theorem tX12_walk_67 {G : zG} {d b : Nat} {I : Nat → Nat → Int32} {L : Nat → Nat → Int64} {R : zR} {x1 : Int32} {x2 : Int32} {x3 : Int32} {x4 : Int32} {x5 : Int32} (hR : zR0 R)
    (K : (vp_in x4 9 ∧ (vp_in (zca 1 x4 (I 63 (zx x4))) 463 ∧ (vp_in x4 9 ∧ (vp_in (zca 0 x4 (I 63 (zx x4))) 463 ∧ (vp_in x4 8 ∧ (∀ I6 : Nat → Nat → Int32, I6 = (zup I 64 (zx x4) (zpo x5 x3 (I 57 (zx (zca 0 x4 (I 63 (zx x4))))) (I 57 (zx (zca 1 x4 (I 63 (zx x4))))) x4)) → (vp_in x4 8 ∧ (vp_in x4 8 ∧ (∀ I9 : Nat → Nat → Int32, I9 = (zup I6 66 (zx x4) (zho x5 x3 (I6 64 (zx x4)) (I 57 (zx (zca 1 x4 (I 63 (zx x4))))))) → (vp_in x4 9 ∧ (vp_in x4 8 ∧ ((¬ (I 57 (zx (zca 1 x4 (I 63 (zx x4))))) = 2 → (vp_in (x4 + 1) 9 ∧ (∀ I14 : Nat → Nat → Int32, I14 = (zup I9 65 (zx (x4 + 1)) ((((I9 65 (zx x4)) + 30) - (I9 64 (zx x4))) + 0)) → (vp_in x4 9 ∧ (vp_in ((119 + (8 * x1)) + x4) 463 ∧ (vp_in (x4 + 1) 9 ∧ (∀ I18 : Nat → Nat → Int32, I18 = (zup I14 63 (zx (x4 + 1)) (zlb (I14 57 1) (I14 63 (zx x4)) (I14 57 (zx ((119 + (8 * x1)) + x4))))) → (vp_in x4 8 ∧ zA G (d + 2) mX12_walk 35 [some (.ref 56), some (.int x1), some (.int x2), some (.int (I18 64 (zx x4))), some (.int (x4 + 1)), none, none] [] (zh b I18 L) R)))))))) ∧ ((I 57 (zx (zca 1 x4 (I 63 (zx x4))))) = 2 → ((x5 = 2 → (vp_in (x4 + 1) 9 ∧ (∀ I22 : Nat → Nat → Int32, I22 = (zup I9 65 (zx (x4 + 1)) ((((I9 65 (zx x4)) + 30) - (I9 64 (zx x4))) + 0)) → (vp_in x4 9 ∧ (vp_in ((119 + (8 * x1)) + x4) 463 ∧ (vp_in (x4 + 1) 9 ∧ (∀ I26 : Nat → Nat → Int32, I26 = (zup I22 63 (zx (x4 + 1)) (zlb (I22 57 1) (I22 63 (zx x4)) (I22 57 (zx ((119 + (8 * x1)) + x4))))) → (vp_in x4 8 ∧ zA G (d + 2) mX12_walk 35 [some (.ref 56), some (.int x1), some (.int x2), some (.int (I26 64 (zx x4))), some (.int (x4 + 1)), none, none] [] (zh b I26 L) R)))))))) ∧ (¬ x5 = 2 → (vp_in (x4 + 1) 9 ∧ (∀ I29 : Nat → Nat → Int32, I29 = (zup I9 65 (zx (x4 + 1)) ((((I9 65 (zx x4)) + 30) - (I9 64 (zx x4))) + 5)) → (vp_in x4 9 ∧ (vp_in ((119 + (8 * x1)) + x4) 463 ∧ (vp_in (x4 + 1) 9 ∧ (∀ I33 : Nat → Nat → Int32, I33 = (zup I29 63 (zx (x4 + 1)) (zlb (I29 57 1) (I29 63 (zx x4)) (I29 57 (zx ((119 + (8 * x1)) + x4))))) → (vp_in x4 8 ∧ zA G (d + 2) mX12_walk 35 [some (.ref 56), some (.int x1), some (.int x2), some (.int (I33 64 (zx x4))), some (.int (x4 + 1)), none, none] [] (zh b I33 L) R))))))))))))))))))))))) :
    zA G (d + 2) mX12_walk 67 [some (.ref 56), some (.int x1), some (.int x2), some (.int x3), some (.int x4), some (.int x5), none] [] (zh b I L) R := by
  refine zi_aload_n dX12_walk_67 rfl rfl ?_
  refine zg_getF (k := 0) (v := .ref 57) dX12_walk_68 zc12 rfl (Nat.le_of_ble_eq_true rfl) (Nat.le_of_ble_eq_true rfl) u_806 rfl (rfl) ?_
  refine zi_iconst (v := 1) dX12_walk_71 (by decide) ?_
  refine zi_iload dX12_walk_72 rfl ?_
  refine zi_aload_n dX12_walk_74 rfl rfl ?_
  refine zg_getF (k := 13) (v := .ref 63) dX12_walk_75 zc12 rfl (Nat.le_of_ble_eq_true rfl) (Nat.le_of_ble_eq_true rfl) u_819 rfl (rfl) ?_
  refine zi_iload dX12_walk_78 rfl ?_
  have o1 := K.1
  have K := K.2
  refine zg_iaload dX12_walk_80 (rfl) (Nat.le_of_ble_eq_true rfl) o1 ?_
  refine zi_callS (N := mX12_cellAt) (av := [.int 1, .int x4, .int (I 63 (zx x4))]) (st := [.ref 57]) (R1 := (some (.int (zca 1 x4 (I 63 (zx x4)))), zh b I L)) dX12_walk_81 okX12_cellAt u_899 u_900 arX12_cellAt rfl (Nat.le_of_ble_eq_true rfl) (kX12_cellAt _ _ _) hR ?_
  show zA G (d + 2) mX12_walk 84 [some (.ref 56), some (.int x1), some (.int x2), some (.int x3), some (.int x4), some (.int x5), none] [.int (zca 1 x4 (I 63 (zx x4))), .ref 57] (zh b I L) R
  have o2 := K.1
  have K := K.2
  refine zg_iaload dX12_walk_84 (rfl) (Nat.le_of_ble_eq_true rfl) o2 ?_
  refine zi_istore (ls' := [some (.ref 56), some (.int x1), some (.int x2), some (.int x3), some (.int x4), some (.int x5), some (.int (I 57 (zx (zca 1 x4 (I 63 (zx x4))))))]) dX12_walk_85 (by decide) rfl ?_
  refine zi_aload_n dX12_walk_87 rfl rfl ?_
  refine zg_getF (k := 14) (v := .ref 64) dX12_walk_88 zc12 rfl (Nat.le_of_ble_eq_true rfl) (Nat.le_of_ble_eq_true rfl) u_820 rfl (rfl) ?_
  refine zi_iload dX12_walk_91 rfl ?_
  refine zi_iload dX12_walk_93 rfl ?_
  refine zi_iload_n dX12_walk_95 rfl rfl ?_
  refine zi_aload_n dX12_walk_96 rfl rfl ?_
  refine zg_getF (k := 0) (v := .ref 57) dX12_walk_97 zc12 rfl (Nat.le_of_ble_eq_true rfl) (Nat.le_of_ble_eq_true rfl) u_806 rfl (rfl) ?_
  refine zi_iconst (v := 0) dX12_walk_100 (by decide) ?_
  refine zi_iload dX12_walk_101 rfl ?_
  refine zi_aload_n dX12_walk_103 rfl rfl ?_
  refine zg_getF (k := 13) (v := .ref 63) dX12_walk_104 zc12 rfl (Nat.le_of_ble_eq_true rfl) (Nat.le_of_ble_eq_true rfl) u_819 rfl (rfl) ?_
  refine zi_iload dX12_walk_107 rfl ?_
  have o3 := K.1
  have K := K.2
  refine zg_iaload dX12_walk_109 (rfl) (Nat.le_of_ble_eq_true rfl) o3 ?_
  refine zi_callS (N := mX12_cellAt) (av := [.int 0, .int x4, .int (I 63 (zx x4))]) (st := [.ref 57, .int x3, .int x5, .int x4, .ref 64]) (R1 := (some (.int (zca 0 x4 (I 63 (zx x4)))), zh b I L)) dX12_walk_110 okX12_cellAt u_899 u_900 arX12_cellAt rfl (Nat.le_of_ble_eq_true rfl) (kX12_cellAt _ _ _) hR ?_
  show zA G (d + 2) mX12_walk 113 [some (.ref 56), some (.int x1), some (.int x2), some (.int x3), some (.int x4), some (.int x5), some (.int (I 57 (zx (zca 1 x4 (I 63 (zx x4))))))] [.int (zca 0 x4 (I 63 (zx x4))), .ref 57, .int x3, .int x5, .int x4, .ref 64] (zh b I L) R
  have o4 := K.1
  have K := K.2
  refine zg_iaload dX12_walk_113 (rfl) (Nat.le_of_ble_eq_true rfl) o4 ?_
  refine zi_iload dX12_walk_114 rfl ?_
  refine zi_iload dX12_walk_116 rfl ?_
  refine zi_callS (N := mX12_paceOf) (av := [.int x5, .int x3, .int (I 57 (zx (zca 0 x4 (I 63 (zx x4))))), .int (I 57 (zx (zca 1 x4 (I 63 (zx x4))))), .int x4]) (st := [.int x4, .ref 64]) (R1 := (some (.int (zpo x5 x3 (I 57 (zx (zca 0 x4 (I 63 (zx x4))))) (I 57 (zx (zca 1 x4 (I 63 (zx x4))))) x4)), zh b I L)) dX12_walk_118 okX12_paceOf u_1008 u_1009 arX12_paceOf rfl (Nat.le_of_ble_eq_true rfl) (kX12_paceOf _ _ _ _ _) hR ?_
  show zA G (d + 2) mX12_walk 121 [some (.ref 56), some (.int x1), some (.int x2), some (.int x3), some (.int x4), some (.int x5), some (.int (I 57 (zx (zca 1 x4 (I 63 (zx x4))))))] [.int (zpo x5 x3 (I 57 (zx (zca 0 x4 (I 63 (zx x4))))) (I 57 (zx (zca 1 x4 (I 63 (zx x4))))) x4), .int x4, .ref 64] (zh b I L) R
  have o5 := K.1
  have K := K.2
  refine zg_iastore dX12_walk_121 (rfl) (Nat.le_of_ble_eq_true rfl) o5 ?_
  refine zi_name (fun I6 hI6 => ?_)
  have K := K I6 hI6
  refine zi_aload_n dX12_walk_122 rfl rfl ?_
  refine zg_getF (k := 16) (v := .ref 66) dX12_walk_123 zc12 rfl (Nat.le_of_ble_eq_true rfl) (Nat.le_of_ble_eq_true rfl) u_822 rfl (rfl) ?_
  refine zi_iload dX12_walk_126 rfl ?_
  refine zi_iload dX12_walk_128 rfl ?_
  refine zi_iload_n dX12_walk_130 rfl rfl ?_
  refine zi_aload_n dX12_walk_131 rfl rfl ?_
  refine zg_getF (k := 14) (v := .ref 64) dX12_walk_132 zc12 rfl (Nat.le_of_ble_eq_true rfl) (Nat.le_of_ble_eq_true rfl) u_820 rfl (rfl) ?_
  refine zi_iload dX12_walk_135 rfl ?_
  have o7 := K.1
  have K := K.2
  refine zg_iaload dX12_walk_137 (rfl) (Nat.le_of_ble_eq_true rfl) o7 ?_
  refine zi_iload dX12_walk_138 rfl ?_
  refine zi_callS (N := mX12_harmOf) (av := [.int x5, .int x3, .int (I6 64 (zx x4)), .int (I 57 (zx (zca 1 x4 (I 63 (zx x4)))))]) (st := [.int x4, .ref 66]) (R1 := (some (.int (zho x5 x3 (I6 64 (zx x4)) (I 57 (zx (zca 1 x4 (I 63 (zx x4))))))), zh b I6 L)) dX12_walk_140 okX12_harmOf u_1014 u_1015 arX12_harmOf rfl (Nat.le_of_ble_eq_true rfl) (kX12_harmOf _ _ _ _) hR ?_
  show zA G (d + 2) mX12_walk 143 [some (.ref 56), some (.int x1), some (.int x2), some (.int x3), some (.int x4), some (.int x5), some (.int (I 57 (zx (zca 1 x4 (I 63 (zx x4))))))] [.int (zho x5 x3 (I6 64 (zx x4)) (I 57 (zx (zca 1 x4 (I 63 (zx x4)))))), .int x4, .ref 66] (zh b I6 L) R
  have o8 := K.1
  have K := K.2
  refine zg_iastore dX12_walk_143 (rfl) (Nat.le_of_ble_eq_true rfl) o8 ?_
  refine zi_name (fun I9 hI9 => ?_)
  have K := K I9 hI9
  refine zi_aload_n dX12_walk_144 rfl rfl ?_
  refine zg_getF (k := 15) (v := .ref 65) dX12_walk_145 zc12 rfl (Nat.le_of_ble_eq_true rfl) (Nat.le_of_ble_eq_true rfl) u_821 rfl (rfl) ?_
  refine zi_iload dX12_walk_148 rfl ?_
  refine zi_iconst (v := 1) dX12_walk_150 (by decide) ?_
  refine zi_iadd dX12_walk_151 ?_
  refine zi_aload_n dX12_walk_152 rfl rfl ?_
  refine zg_getF (k := 15) (v := .ref 65) dX12_walk_153 zc12 rfl (Nat.le_of_ble_eq_true rfl) (Nat.le_of_ble_eq_true rfl) u_821 rfl (rfl) ?_
  refine zi_iload dX12_walk_156 rfl ?_
  have o10 := K.1
  have K := K.2
  refine zg_iaload dX12_walk_158 (rfl) (Nat.le_of_ble_eq_true rfl) o10 ?_
  refine zi_bipush (v := 30) dX12_walk_159 (by decide) ?_
  refine zi_iadd dX12_walk_161 ?_
  refine zi_aload_n dX12_walk_162 rfl rfl ?_
  refine zg_getF (k := 14) (v := .ref 64) dX12_walk_163 zc12 rfl (Nat.le_of_ble_eq_true rfl) (Nat.le_of_ble_eq_true rfl) u_820 rfl (rfl) ?_
  refine zi_iload dX12_walk_166 rfl ?_
  have o11 := K.1
  have K := K.2
  refine zg_iaload dX12_walk_168 (rfl) (Nat.le_of_ble_eq_true rfl) o11 ?_
  refine zi_isub dX12_walk_169 ?_
  refine zi_iload dX12_walk_170 rfl ?_
  refine zi_iconst (v := 2) dX12_walk_172 (by decide) ?_
  refine zi_icmp_ne (tgt := 186) dX12_walk_173 (by decide) (fun c12 => ?_) (fun c12 => ?_)
  · have K := K.1 c12
    refine zi_iconst (v := 0) dX12_walk_186 (by decide) ?_
    refine zi_iadd dX12_walk_187 ?_
    have o13 := K.1
    have K := K.2
    refine zg_iastore dX12_walk_188 (rfl) (Nat.le_of_ble_eq_true rfl) o13 ?_
    refine zi_name (fun I14 hI14 => ?_)
    have K := K I14 hI14
    refine zi_aload_n dX12_walk_189 rfl rfl ?_
    refine zg_getF (k := 13) (v := .ref 63) dX12_walk_190 zc12 rfl (Nat.le_of_ble_eq_true rfl) (Nat.le_of_ble_eq_true rfl) u_819 rfl (rfl) ?_
    refine zi_iload dX12_walk_193 rfl ?_
    refine zi_iconst (v := 1) dX12_walk_195 (by decide) ?_
    refine zi_iadd dX12_walk_196 ?_
    refine zi_aload_n dX12_walk_197 rfl rfl ?_
    refine zi_aload_n dX12_walk_198 rfl rfl ?_
    refine zg_getF (k := 13) (v := .ref 63) dX12_walk_199 zc12 rfl (Nat.le_of_ble_eq_true rfl) (Nat.le_of_ble_eq_true rfl) u_819 rfl (rfl) ?_
    refine zi_iload dX12_walk_202 rfl ?_
    have o15 := K.1
    have K := K.2
    refine zg_iaload dX12_walk_204 (rfl) (Nat.le_of_ble_eq_true rfl) o15 ?_
    refine zi_aload_n dX12_walk_205 rfl rfl ?_
    refine zg_getF (k := 0) (v := .ref 57) dX12_walk_206 zc12 rfl (Nat.le_of_ble_eq_true rfl) (Nat.le_of_ble_eq_true rfl) u_806 rfl (rfl) ?_
    refine zi_bipush (v := 119) dX12_walk_209 (by decide) ?_
    refine zi_bipush (v := 8) dX12_walk_211 (by decide) ?_
    refine zi_iload_n dX12_walk_213 rfl rfl ?_
    refine zi_imul dX12_walk_214 ?_
    refine zi_iadd dX12_walk_215 ?_
    refine zi_iload dX12_walk_216 rfl ?_
    refine zi_iadd dX12_walk_218 ?_
    have o16 := K.1
    have K := K.2
    refine zg_iaload dX12_walk_219 (rfl) (Nat.le_of_ble_eq_true rfl) o16 ?_
    refine zi_callV (N := mX12_steps) (av := [.int (I14 63 (zx x4)), .int (I14 57 (zx ((119 + (8 * x1)) + x4)))]) (st := [.int (x4 + 1), .ref 63]) (R1 := (some (.int (zlb (I14 57 1) (I14 63 (zx x4)) (I14 57 (zx ((119 + (8 * x1)) + x4))))), zh b I14 L)) dX12_walk_220 okX12_steps u_1017 u_1019 s_36 zc12 (rfl) (Nat.le_of_ble_eq_true rfl) arX12_steps rfl (Nat.le_of_ble_eq_true rfl) (kX12_steps _ _) hR ?_
    show zA G (d + 2) mX12_walk 223 [some (.ref 56), some (.int x1), some (.int x2), some (.int x3), some (.int x4), some (.int x5), some (.int (I 57 (zx (zca 1 x4 (I 63 (zx x4))))))] [.int (zlb (I14 57 1) (I14 63 (zx x4)) (I14 57 (zx ((119 + (8 * x1)) + x4)))), .int (x4 + 1), .ref 63] (zh b I14 L) R
    have o17 := K.1
    have K := K.2
    refine zg_iastore dX12_walk_223 (rfl) (Nat.le_of_ble_eq_true rfl) o17 ?_
    refine zi_name (fun I18 hI18 => ?_)
    have K := K I18 hI18
    refine zi_aload_n dX12_walk_224 rfl rfl ?_
    refine zg_getF (k := 14) (v := .ref 64) dX12_walk_225 zc12 rfl (Nat.le_of_ble_eq_true rfl) (Nat.le_of_ble_eq_true rfl) u_820 rfl (rfl) ?_
    refine zi_iload dX12_walk_228 rfl ?_
    have o19 := K.1
    have K := K.2
    refine zg_iaload dX12_walk_230 (rfl) (Nat.le_of_ble_eq_true rfl) o19 ?_
    refine zi_istore_n (ls' := [some (.ref 56), some (.int x1), some (.int x2), some (.int (I18 64 (zx x4))), some (.int x4), some (.int x5), some (.int (I 57 (zx (zca 1 x4 (I 63 (zx x4))))))]) dX12_walk_231 rfl (by decide) rfl ?_
    refine zi_iinc (v := x4 + 1) (ls' := [some (.ref 56), some (.int x1), some (.int x2), some (.int (I18 64 (zx x4))), some (.int (x4 + 1)), some (.int x5), some (.int (I 57 (zx (zca 1 x4 (I 63 (zx x4))))))]) dX12_walk_232 rfl (by decide) rfl rfl ?_
    refine zi_goto (tgt := 35) dX12_walk_235 (by decide) ?_
    refine zi_mask [true, true, true, true, true, false, false] rfl ?_
    exact K
  · have K := K.2 c12
    refine zi_iload dX12_walk_176 rfl ?_
    refine zi_iconst (v := 2) dX12_walk_178 (by decide) ?_
    refine zi_icmp_eq (tgt := 186) dX12_walk_179 (by decide) (fun c20 => ?_) (fun c20 => ?_)
    · have K := K.1 c20
      refine zi_iconst (v := 0) dX12_walk_186 (by decide) ?_
      refine zi_iadd dX12_walk_187 ?_
      have o21 := K.1
      have K := K.2
      refine zg_iastore dX12_walk_188 (rfl) (Nat.le_of_ble_eq_true rfl) o21 ?_
      refine zi_name (fun I22 hI22 => ?_)
      have K := K I22 hI22
      refine zi_aload_n dX12_walk_189 rfl rfl ?_
      refine zg_getF (k := 13) (v := .ref 63) dX12_walk_190 zc12 rfl (Nat.le_of_ble_eq_true rfl) (Nat.le_of_ble_eq_true rfl) u_819 rfl (rfl) ?_
      refine zi_iload dX12_walk_193 rfl ?_
      refine zi_iconst (v := 1) dX12_walk_195 (by decide) ?_
      refine zi_iadd dX12_walk_196 ?_
      refine zi_aload_n dX12_walk_197 rfl rfl ?_
      refine zi_aload_n dX12_walk_198 rfl rfl ?_
      refine zg_getF (k := 13) (v := .ref 63) dX12_walk_199 zc12 rfl (Nat.le_of_ble_eq_true rfl) (Nat.le_of_ble_eq_true rfl) u_819 rfl (rfl) ?_
      refine zi_iload dX12_walk_202 rfl ?_
      have o23 := K.1
      have K := K.2
      refine zg_iaload dX12_walk_204 (rfl) (Nat.le_of_ble_eq_true rfl) o23 ?_
      refine zi_aload_n dX12_walk_205 rfl rfl ?_
      refine zg_getF (k := 0) (v := .ref 57) dX12_walk_206 zc12 rfl (Nat.le_of_ble_eq_true rfl) (Nat.le_of_ble_eq_true rfl) u_806 rfl (rfl) ?_
      refine zi_bipush (v := 119) dX12_walk_209 (by decide) ?_
      refine zi_bipush (v := 8) dX12_walk_211 (by decide) ?_
      refine zi_iload_n dX12_walk_213 rfl rfl ?_
      refine zi_imul dX12_walk_214 ?_
      refine zi_iadd dX12_walk_215 ?_
      refine zi_iload dX12_walk_216 rfl ?_
      refine zi_iadd dX12_walk_218 ?_
      have o24 := K.1
      have K := K.2
      refine zg_iaload dX12_walk_219 (rfl) (Nat.le_of_ble_eq_true rfl) o24 ?_
      refine zi_callV (N := mX12_steps) (av := [.int (I22 63 (zx x4)), .int (I22 57 (zx ((119 + (8 * x1)) + x4)))]) (st := [.int (x4 + 1), .ref 63]) (R1 := (some (.int (zlb (I22 57 1) (I22 63 (zx x4)) (I22 57 (zx ((119 + (8 * x1)) + x4))))), zh b I22 L)) dX12_walk_220 okX12_steps u_1017 u_1019 s_36 zc12 (rfl) (Nat.le_of_ble_eq_true rfl) arX12_steps rfl (Nat.le_of_ble_eq_true rfl) (kX12_steps _ _) hR ?_
      show zA G (d + 2) mX12_walk 223 [some (.ref 56), some (.int x1), some (.int x2), some (.int x3), some (.int x4), some (.int x5), some (.int (I 57 (zx (zca 1 x4 (I 63 (zx x4))))))] [.int (zlb (I22 57 1) (I22 63 (zx x4)) (I22 57 (zx ((119 + (8 * x1)) + x4)))), .int (x4 + 1), .ref 63] (zh b I22 L) R
      have o25 := K.1
      have K := K.2
      refine zg_iastore dX12_walk_223 (rfl) (Nat.le_of_ble_eq_true rfl) o25 ?_
      refine zi_name (fun I26 hI26 => ?_)
      have K := K I26 hI26
      refine zi_aload_n dX12_walk_224 rfl rfl ?_
      refine zg_getF (k := 14) (v := .ref 64) dX12_walk_225 zc12 rfl (Nat.le_of_ble_eq_true rfl) (Nat.le_of_ble_eq_true rfl) u_820 rfl (rfl) ?_
      refine zi_iload dX12_walk_228 rfl ?_
      have o27 := K.1
      have K := K.2
      refine zg_iaload dX12_walk_230 (rfl) (Nat.le_of_ble_eq_true rfl) o27 ?_
      refine zi_istore_n (ls' := [some (.ref 56), some (.int x1), some (.int x2), some (.int (I26 64 (zx x4))), some (.int x4), some (.int x5), some (.int (I 57 (zx (zca 1 x4 (I 63 (zx x4))))))]) dX12_walk_231 rfl (by decide) rfl ?_
      refine zi_iinc (v := x4 + 1) (ls' := [some (.ref 56), some (.int x1), some (.int x2), some (.int (I26 64 (zx x4))), some (.int (x4 + 1)), some (.int x5), some (.int (I 57 (zx (zca 1 x4 (I 63 (zx x4))))))]) dX12_walk_232 rfl (by decide) rfl rfl ?_
      refine zi_goto (tgt := 35) dX12_walk_235 (by decide) ?_
      refine zi_mask [true, true, true, true, true, false, false] rfl ?_
      exact K
    · have K := K.2 c20
      refine zi_iconst (v := 5) dX12_walk_182 (by decide) ?_
      refine zi_goto (tgt := 187) dX12_walk_183 (by decide) ?_
      refine zi_iadd dX12_walk_187 ?_
      have o28 := K.1
      have K := K.2
      refine zg_iastore dX12_walk_188 (rfl) (Nat.le_of_ble_eq_true rfl) o28 ?_
      refine zi_name (fun I29 hI29 => ?_)
      have K := K I29 hI29
      refine zi_aload_n dX12_walk_189 rfl rfl ?_
      refine zg_getF (k := 13) (v := .ref 63) dX12_walk_190 zc12 rfl (Nat.le_of_ble_eq_true rfl) (Nat.le_of_ble_eq_true rfl) u_819 rfl (rfl) ?_
      refine zi_iload dX12_walk_193 rfl ?_
      refine zi_iconst (v := 1) dX12_walk_195 (by decide) ?_
      refine zi_iadd dX12_walk_196 ?_
      refine zi_aload_n dX12_walk_197 rfl rfl ?_
      refine zi_aload_n dX12_walk_198 rfl rfl ?_
      refine zg_getF (k := 13) (v := .ref 63) dX12_walk_199 zc12 rfl (Nat.le_of_ble_eq_true rfl) (Nat.le_of_ble_eq_true rfl) u_819 rfl (rfl) ?_
      refine zi_iload dX12_walk_202 rfl ?_
      have o30 := K.1
      have K := K.2
      refine zg_iaload dX12_walk_204 (rfl) (Nat.le_of_ble_eq_true rfl) o30 ?_
      refine zi_aload_n dX12_walk_205 rfl rfl ?_
      refine zg_getF (k := 0) (v := .ref 57) dX12_walk_206 zc12 rfl (Nat.le_of_ble_eq_true rfl) (Nat.le_of_ble_eq_true rfl) u_806 rfl (rfl) ?_
      refine zi_bipush (v := 119) dX12_walk_209 (by decide) ?_
      refine zi_bipush (v := 8) dX12_walk_211 (by decide) ?_
      refine zi_iload_n dX12_walk_213 rfl rfl ?_
      refine zi_imul dX12_walk_214 ?_
      refine zi_iadd dX12_walk_215 ?_
      refine zi_iload dX12_walk_216 rfl ?_
      refine zi_iadd dX12_walk_218 ?_
      have o31 := K.1
      have K := K.2
      refine zg_iaload dX12_walk_219 (rfl) (Nat.le_of_ble_eq_true rfl) o31 ?_
      refine zi_callV (N := mX12_steps) (av := [.int (I29 63 (zx x4)), .int (I29 57 (zx ((119 + (8 * x1)) + x4)))]) (st := [.int (x4 + 1), .ref 63]) (R1 := (some (.int (zlb (I29 57 1) (I29 63 (zx x4)) (I29 57 (zx ((119 + (8 * x1)) + x4))))), zh b I29 L)) dX12_walk_220 okX12_steps u_1017 u_1019 s_36 zc12 (rfl) (Nat.le_of_ble_eq_true rfl) arX12_steps rfl (Nat.le_of_ble_eq_true rfl) (kX12_steps _ _) hR ?_
      show zA G (d + 2) mX12_walk 223 [some (.ref 56), some (.int x1), some (.int x2), some (.int x3), some (.int x4), some (.int x5), some (.int (I 57 (zx (zca 1 x4 (I 63 (zx x4))))))] [.int (zlb (I29 57 1) (I29 63 (zx x4)) (I29 57 (zx ((119 + (8 * x1)) + x4)))), .int (x4 + 1), .ref 63] (zh b I29 L) R
      have o32 := K.1
      have K := K.2
      refine zg_iastore dX12_walk_223 (rfl) (Nat.le_of_ble_eq_true rfl) o32 ?_
      refine zi_name (fun I33 hI33 => ?_)
      have K := K I33 hI33
      refine zi_aload_n dX12_walk_224 rfl rfl ?_
      refine zg_getF (k := 14) (v := .ref 64) dX12_walk_225 zc12 rfl (Nat.le_of_ble_eq_true rfl) (Nat.le_of_ble_eq_true rfl) u_820 rfl (rfl) ?_
      refine zi_iload dX12_walk_228 rfl ?_
      have o34 := K.1
      have K := K.2
      refine zg_iaload dX12_walk_230 (rfl) (Nat.le_of_ble_eq_true rfl) o34 ?_
      refine zi_istore_n (ls' := [some (.ref 56), some (.int x1), some (.int x2), some (.int (I33 64 (zx x4))), some (.int x4), some (.int x5), some (.int (I 57 (zx (zca 1 x4 (I 63 (zx x4))))))]) dX12_walk_231 rfl (by decide) rfl ?_
      refine zi_iinc (v := x4 + 1) (ls' := [some (.ref 56), some (.int x1), some (.int x2), some (.int (I33 64 (zx x4))), some (.int (x4 + 1)), some (.int x5), some (.int (I 57 (zx (zca 1 x4 (I 63 (zx x4))))))]) dX12_walk_232 rfl (by decide) rfl rfl ?_
      refine zi_goto (tgt := 35) dX12_walk_235 (by decide) ?_
      refine zi_mask [true, true, true, true, true, false, false] rfl ?_
      exact K
set_option maxRecDepth 100000 in
theorem tX12_walks_0 {G : zG} {d b : Nat} {I : Nat → Nat → Int32} {L : Nat → Nat → Int64} {R : zR} {x1 : Int32} (hR : zR0 R)
    (K : (∃ (I1 : Nat → Nat → Int32), zCall (d + 2) mX12_walk [.ref 56, .int x1, .int 9] (zh b I L) (none, zh b I1 L) ∧ R = (none, zh b I1 L))) :
    zA G (d + 3) mX12_walks 0 [some (.ref 56), some (.int x1)] [] (zh b I L) R := by
  refine zi_aload_n dX12_walks_0 rfl rfl ?_
  refine zi_iload_n dX12_walks_1 rfl rfl ?_
  refine zi_bipush (v := 9) dX12_walks_2 (by decide) ?_
  obtain ⟨I1, h2, K⟩ := K
  refine zi_callV (N := mX12_walk) (av := [.int x1, .int 9]) (st := []) (R1 := (none, zh b I1 L)) dX12_walks_4 okX12_walk u_1004 u_1006 s_35 zc12 (rfl) (Nat.le_of_ble_eq_true rfl) arX12_walk rfl (Nat.le_of_ble_eq_true rfl) (h2) hR ?_
  show zA G (d + 3) mX12_walks 7 [some (.ref 56), some (.int x1)] [] (zh b I1 L) R
  subst K
  exact zi_return dX12_walks_7 rfl
set_option maxRecDepth 100000 in
theorem tX12_harm_0 {G : zG} {d b : Nat} {I : Nat → Nat → Int32} {L : Nat → Nat → Int64} {R : zR} 
    (K : zA G d mX12_harm 4 [some (.ref 56), some (.int 0), some (.int 0)] [] (zh b I L) R) :
    zA G d mX12_harm 0 [some (.ref 56), none, none] [] (zh b I L) R := by
  refine zi_iconst (v := 0) dX12_harm_0 (by decide) ?_
  refine zi_istore_n (ls' := [some (.ref 56), some (.int 0), none]) dX12_harm_1 rfl (by decide) rfl ?_
  refine zi_iconst (v := 0) dX12_harm_2 (by decide) ?_
  refine zi_istore_n (ls' := [some (.ref 56), some (.int 0), some (.int 0)]) dX12_harm_3 rfl (by decide) rfl ?_
  exact K
set_option maxRecDepth 100000 in
theorem tX12_harm_4 {G : zG} {d b : Nat} {I : Nat → Nat → Int32} {L : Nat → Nat → Int64} {R : zR} {x1 : Int32} {x2 : Int32}
    (K : (((I 57 0) ≤ x2 → R = (some (.int x1), zh b I L)) ∧ (¬ (I 57 0) ≤ x2 → (vp_in x2 8 ∧ zA G d mX12_harm 4 [some (.ref 56), some (.int (x1 + (I 66 (zx x2)))), some (.int (x2 + 1))] [] (zh b I L) R)))) :
    zA G d mX12_harm 4 [some (.ref 56), some (.int x1), some (.int x2)] [] (zh b I L) R := by
  refine zi_iload_n dX12_harm_4 rfl rfl ?_
  refine zi_aload_n dX12_harm_5 rfl rfl ?_
  refine zg_getF (k := 0) (v := .ref 57) dX12_harm_6 zc12 rfl (Nat.le_of_ble_eq_true rfl) (Nat.le_of_ble_eq_true rfl) u_806 rfl (rfl) ?_
  refine zi_iconst (v := 0) dX12_harm_9 (by decide) ?_
  refine zg_iaload dX12_harm_10 (rfl) (Nat.le_of_ble_eq_true rfl) (zvi (by decide)) ?_
  show zA G d mX12_harm 11 [some (.ref 56), some (.int x1), some (.int x2)] [.int (I 57 0), .int x2] (zh b I L) R
  refine zi_icmp_ge (tgt := 29) dX12_harm_11 (by decide) (fun c1 => ?_) (fun c1 => ?_)
  · have K := K.1 c1
    refine zi_iload_n dX12_harm_29 rfl rfl ?_
    subst K
    exact zi_ireturn dX12_harm_30 rfl rfl
  · have K := K.2 c1
    refine zi_iload_n dX12_harm_14 rfl rfl ?_
    refine zi_aload_n dX12_harm_15 rfl rfl ?_
    refine zg_getF (k := 16) (v := .ref 66) dX12_harm_16 zc12 rfl (Nat.le_of_ble_eq_true rfl) (Nat.le_of_ble_eq_true rfl) u_822 rfl (rfl) ?_
    refine zi_iload_n dX12_harm_19 rfl rfl ?_
    have o2 := K.1
    have K := K.2
    refine zg_iaload dX12_harm_20 (rfl) (Nat.le_of_ble_eq_true rfl) o2 ?_
    refine zi_iadd dX12_harm_21 ?_
    refine zi_istore_n (ls' := [some (.ref 56), some (.int (x1 + (I 66 (zx x2)))), some (.int x2)]) dX12_harm_22 rfl (by decide) rfl ?_
    refine zi_iinc (v := x2 + 1) (ls' := [some (.ref 56), some (.int (x1 + (I 66 (zx x2)))), some (.int (x2 + 1))]) dX12_harm_23 rfl (by decide) rfl rfl ?_
    refine zi_goto (tgt := 4) dX12_harm_26 (by decide) ?_
    exact K
set_option maxRecDepth 100000 in
theorem tX12_comesTo_0 {G : zG} {d b : Nat} {I : Nat → Nat → Int32} {L : Nat → Nat → Int64} {R : zR} {x1 : Int32} (hR : zR0 R)
    (K : (vp_in (I 57 0) 9 ∧ (∃ (r2 : Int32), zCall d mX12_harm [.ref 56] (zh b I L) (some (.int r2), zh b I L) ∧ R = (some (.int (((I 65 (zx (I 57 0))) - (I 65 0)) + (x1 * r2))), zh b I L)))) :
    zA G (d + 1) mX12_comesTo 0 [some (.ref 56), some (.int x1)] [] (zh b I L) R := by
  refine zi_aload_n dX12_comesTo_0 rfl rfl ?_
  refine zg_getF (k := 15) (v := .ref 65) dX12_comesTo_1 zc12 rfl (Nat.le_of_ble_eq_true rfl) (Nat.le_of_ble_eq_true rfl) u_821 rfl (rfl) ?_
  refine zi_aload_n dX12_comesTo_4 rfl rfl ?_
  refine zg_getF (k := 0) (v := .ref 57) dX12_comesTo_5 zc12 rfl (Nat.le_of_ble_eq_true rfl) (Nat.le_of_ble_eq_true rfl) u_806 rfl (rfl) ?_
  refine zi_iconst (v := 0) dX12_comesTo_8 (by decide) ?_
  refine zg_iaload dX12_comesTo_9 (rfl) (Nat.le_of_ble_eq_true rfl) (zvi (by decide)) ?_
  show zA G (d + 1) mX12_comesTo 10 [some (.ref 56), some (.int x1)] [.int (I 57 0), .ref 65] (zh b I L) R
  have o1 := K.1
  have K := K.2
  refine zg_iaload dX12_comesTo_10 (rfl) (Nat.le_of_ble_eq_true rfl) o1 ?_
  refine zi_aload_n dX12_comesTo_11 rfl rfl ?_
  refine zg_getF (k := 15) (v := .ref 65) dX12_comesTo_12 zc12 rfl (Nat.le_of_ble_eq_true rfl) (Nat.le_of_ble_eq_true rfl) u_821 rfl (rfl) ?_
  refine zi_iconst (v := 0) dX12_comesTo_15 (by decide) ?_
  refine zg_iaload dX12_comesTo_16 (rfl) (Nat.le_of_ble_eq_true rfl) (zvi (by decide)) ?_
  show zA G (d + 1) mX12_comesTo 17 [some (.ref 56), some (.int x1)] [.int (I 65 0), .int (I 65 (zx (I 57 0)))] (zh b I L) R
  refine zi_isub dX12_comesTo_17 ?_
  refine zi_iload_n dX12_comesTo_18 rfl rfl ?_
  refine zi_aload_n dX12_comesTo_19 rfl rfl ?_
  obtain ⟨r2, h3, K⟩ := K
  refine zi_callV (N := mX12_harm) (av := []) (st := [.int x1, .int ((I 65 (zx (I 57 0))) - (I 65 0))]) (R1 := (some (.int r2), zh b I L)) dX12_comesTo_20 okX12_harm u_1025 u_1027 s_37 zc12 (rfl) (Nat.le_of_ble_eq_true rfl) arX12_harm rfl (Nat.le_of_ble_eq_true rfl) (h3) hR ?_
  show zA G (d + 1) mX12_comesTo 23 [some (.ref 56), some (.int x1)] [.int r2, .int x1, .int ((I 65 (zx (I 57 0))) - (I 65 0))] (zh b I L) R
  refine zi_imul dX12_comesTo_23 ?_
  refine zi_iadd dX12_comesTo_24 ?_
  subst K
  exact zi_ireturn dX12_comesTo_25 rfl rfl
