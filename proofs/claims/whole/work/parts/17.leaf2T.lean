/-! rows by program: X4_hasRow, X4_hasRunner, X12_isRunner, X12_isRow, X12_isLane, X12_paceOf, X12_isCell, X12_isRunnerAt -/
set_option maxRecDepth 100000 in
theorem tX4_hasRow_0 {G : zG} {d b : Nat} {q : Nat} {I : Nat → Nat → Int32} {L : Nat → Nat → Int64} {R : zR} {x1 : Int32} (hq : zhl q) (hR : zR0 R)
    (K : R = (some (.int (zb (0 ≤ x1 ∧ x1 ≤ ((I q 0) - 1)))), zh b I L)) :
    zA G (d + 1) mX4_hasRow 0 [some (.ref q), some (.int x1)] [] (zh b I L) R := by
  refine zi_iload_n dX4_hasRow_0 rfl rfl ?_
  refine zi_iconst (v := 0) dX4_hasRow_1 (by decide) ?_
  refine zi_aload_n dX4_hasRow_2 rfl rfl ?_
  refine zg_getI (k := 0) dX4_hasRow_3 zc4 hq.sh hq.l0 (Nat.le_of_ble_eq_true rfl) u_36 rfl ?_
  refine zi_iconst (v := 1) dX4_hasRow_6 (by decide) ?_
  refine zi_isub dX4_hasRow_7 ?_
  refine zi_callSN (N := mX11_within) (av := [.int x1, .int 0, .int ((I q 0) - 1)]) (st := []) (R1 := (some (.int (zb (0 ≤ x1 ∧ x1 ≤ ((I q 0) - 1)))), zh b I L)) dX4_hasRow_8 okX11_within (by decide) u_295 arX11_within rfl (Nat.le_of_ble_eq_true rfl) (kX11_within _ _ _) hR ?_
  show zA G (d + 1) mX4_hasRow 11 [some (.ref q), some (.int x1)] [.int (zb (0 ≤ x1 ∧ x1 ≤ ((I q 0) - 1)))] (zh b I L) R
  subst K
  exact zi_ireturn dX4_hasRow_11 rfl (znb _)
set_option maxRecDepth 100000 in
theorem tX4_hasRunner_0 {G : zG} {d b : Nat} {q : Nat} {I : Nat → Nat → Int32} {L : Nat → Nat → Int64} {R : zR} {x1 : Int32} (hq : zhl q) (hR : zR0 R)
    (K : R = (some (.int (zb (0 ≤ x1 ∧ x1 ≤ ((I q 2) - 1)))), zh b I L)) :
    zA G (d + 1) mX4_hasRunner 0 [some (.ref q), some (.int x1)] [] (zh b I L) R := by
  refine zi_iload_n dX4_hasRunner_0 rfl rfl ?_
  refine zi_iconst (v := 0) dX4_hasRunner_1 (by decide) ?_
  refine zi_aload_n dX4_hasRunner_2 rfl rfl ?_
  refine zg_getI (k := 2) dX4_hasRunner_3 zc4 hq.sh hq.l0 (Nat.le_of_ble_eq_true rfl) u_47 rfl ?_
  refine zi_iconst (v := 1) dX4_hasRunner_6 (by decide) ?_
  refine zi_isub dX4_hasRunner_7 ?_
  refine zi_callSN (N := mX11_within) (av := [.int x1, .int 0, .int ((I q 2) - 1)]) (st := []) (R1 := (some (.int (zb (0 ≤ x1 ∧ x1 ≤ ((I q 2) - 1)))), zh b I L)) dX4_hasRunner_8 okX11_within (by decide) u_295 arX11_within rfl (Nat.le_of_ble_eq_true rfl) (kX11_within _ _ _) hR ?_
  show zA G (d + 1) mX4_hasRunner 11 [some (.ref q), some (.int x1)] [.int (zb (0 ≤ x1 ∧ x1 ≤ ((I q 2) - 1)))] (zh b I L) R
  subst K
  exact zi_ireturn dX4_hasRunner_11 rfl (znb _)
set_option maxRecDepth 100000 in
theorem tX12_isRunner_0 {G : zG} {d b : Nat} {I : Nat → Nat → Int32} {L : Nat → Nat → Int64} {R : zR} {x1 : Int32} (hR : zR0 R)
    (K : R = (some (.int (zb (0 ≤ x1.toInt64 ∧ x1.toInt64 ≤ (((I 57 2) - 1).toInt64)))), zh b I L)) :
    zA G (d + 1) mX12_isRunner 0 [some (.ref 56), some (.int x1)] [] (zh b I L) R := by
  refine zi_iload_n dX12_isRunner_0 rfl rfl ?_
  refine zi_i2l dX12_isRunner_1 ?_
  refine zi_lconst (v := 0) dX12_isRunner_2 (by decide) ?_
  refine zi_aload_n dX12_isRunner_3 rfl rfl ?_
  refine zg_getF (k := 0) (v := .ref 57) dX12_isRunner_4 zc12 rfl (Nat.le_of_ble_eq_true rfl) (Nat.le_of_ble_eq_true rfl) u_806 rfl (rfl) ?_
  refine zi_iconst (v := 2) dX12_isRunner_7 (by decide) ?_
  refine zg_iaload dX12_isRunner_8 (rfl) (Nat.le_of_ble_eq_true rfl) (zvi (by decide)) ?_
  show zA G (d + 1) mX12_isRunner 9 [some (.ref 56), some (.int x1)] [.int (I 57 2), .long 0, .long x1.toInt64] (zh b I L) R
  refine zi_iconst (v := 1) dX12_isRunner_9 (by decide) ?_
  refine zi_isub dX12_isRunner_10 ?_
  refine zi_i2l dX12_isRunner_11 ?_
  refine zi_callS (N := mX12_in) (av := [.long x1.toInt64, .long 0, .long (((I 57 2) - 1).toInt64)]) (st := []) (R1 := (some (.int (zb (0 ≤ x1.toInt64 ∧ x1.toInt64 ≤ (((I 57 2) - 1).toInt64)))), zh b I L)) dX12_isRunner_12 okX12_in u_803 u_804 arX12_in rfl (Nat.le_of_ble_eq_true rfl) (kX12_in _ _ _) hR ?_
  show zA G (d + 1) mX12_isRunner 15 [some (.ref 56), some (.int x1)] [.int (zb (0 ≤ x1.toInt64 ∧ x1.toInt64 ≤ (((I 57 2) - 1).toInt64)))] (zh b I L) R
  subst K
  exact zi_ireturn dX12_isRunner_15 rfl (znb _)
set_option maxRecDepth 100000 in
theorem tX12_isRow_0 {G : zG} {d b : Nat} {I : Nat → Nat → Int32} {L : Nat → Nat → Int64} {R : zR} {x1 : Int32} (hR : zR0 R)
    (K : R = (some (.int (zb (0 ≤ x1.toInt64 ∧ x1.toInt64 ≤ (((I 57 0) - 1).toInt64)))), zh b I L)) :
    zA G (d + 1) mX12_isRow 0 [some (.ref 56), some (.int x1)] [] (zh b I L) R := by
  refine zi_iload_n dX12_isRow_0 rfl rfl ?_
  refine zi_i2l dX12_isRow_1 ?_
  refine zi_lconst (v := 0) dX12_isRow_2 (by decide) ?_
  refine zi_aload_n dX12_isRow_3 rfl rfl ?_
  refine zg_getF (k := 0) (v := .ref 57) dX12_isRow_4 zc12 rfl (Nat.le_of_ble_eq_true rfl) (Nat.le_of_ble_eq_true rfl) u_806 rfl (rfl) ?_
  refine zi_iconst (v := 0) dX12_isRow_7 (by decide) ?_
  refine zg_iaload dX12_isRow_8 (rfl) (Nat.le_of_ble_eq_true rfl) (zvi (by decide)) ?_
  show zA G (d + 1) mX12_isRow 9 [some (.ref 56), some (.int x1)] [.int (I 57 0), .long 0, .long x1.toInt64] (zh b I L) R
  refine zi_iconst (v := 1) dX12_isRow_9 (by decide) ?_
  refine zi_isub dX12_isRow_10 ?_
  refine zi_i2l dX12_isRow_11 ?_
  refine zi_callS (N := mX12_in) (av := [.long x1.toInt64, .long 0, .long (((I 57 0) - 1).toInt64)]) (st := []) (R1 := (some (.int (zb (0 ≤ x1.toInt64 ∧ x1.toInt64 ≤ (((I 57 0) - 1).toInt64)))), zh b I L)) dX12_isRow_12 okX12_in u_803 u_804 arX12_in rfl (Nat.le_of_ble_eq_true rfl) (kX12_in _ _ _) hR ?_
  show zA G (d + 1) mX12_isRow 15 [some (.ref 56), some (.int x1)] [.int (zb (0 ≤ x1.toInt64 ∧ x1.toInt64 ≤ (((I 57 0) - 1).toInt64)))] (zh b I L) R
  subst K
  exact zi_ireturn dX12_isRow_15 rfl (znb _)
set_option maxRecDepth 100000 in
theorem tX12_isLane_0 {G : zG} {d b : Nat} {I : Nat → Nat → Int32} {L : Nat → Nat → Int64} {R : zR} {x1 : Int32} (hR : zR0 R)
    (K : R = (some (.int (zb (0 ≤ x1.toInt64 ∧ x1.toInt64 ≤ (((I 57 1) - 1).toInt64)))), zh b I L)) :
    zA G (d + 1) mX12_isLane 0 [some (.ref 56), some (.int x1)] [] (zh b I L) R := by
  refine zi_iload_n dX12_isLane_0 rfl rfl ?_
  refine zi_i2l dX12_isLane_1 ?_
  refine zi_lconst (v := 0) dX12_isLane_2 (by decide) ?_
  refine zi_aload_n dX12_isLane_3 rfl rfl ?_
  refine zg_getF (k := 0) (v := .ref 57) dX12_isLane_4 zc12 rfl (Nat.le_of_ble_eq_true rfl) (Nat.le_of_ble_eq_true rfl) u_806 rfl (rfl) ?_
  refine zi_iconst (v := 1) dX12_isLane_7 (by decide) ?_
  refine zg_iaload dX12_isLane_8 (rfl) (Nat.le_of_ble_eq_true rfl) (zvi (by decide)) ?_
  show zA G (d + 1) mX12_isLane 9 [some (.ref 56), some (.int x1)] [.int (I 57 1), .long 0, .long x1.toInt64] (zh b I L) R
  refine zi_iconst (v := 1) dX12_isLane_9 (by decide) ?_
  refine zi_isub dX12_isLane_10 ?_
  refine zi_i2l dX12_isLane_11 ?_
  refine zi_callS (N := mX12_in) (av := [.long x1.toInt64, .long 0, .long (((I 57 1) - 1).toInt64)]) (st := []) (R1 := (some (.int (zb (0 ≤ x1.toInt64 ∧ x1.toInt64 ≤ (((I 57 1) - 1).toInt64)))), zh b I L)) dX12_isLane_12 okX12_in u_803 u_804 arX12_in rfl (Nat.le_of_ble_eq_true rfl) (kX12_in _ _ _) hR ?_
  show zA G (d + 1) mX12_isLane 15 [some (.ref 56), some (.int x1)] [.int (zb (0 ≤ x1.toInt64 ∧ x1.toInt64 ≤ (((I 57 1) - 1).toInt64)))] (zh b I L) R
  subst K
  exact zi_ireturn dX12_isLane_15 rfl (znb _)
set_option maxRecDepth 100000 in
theorem tX12_paceOf_0 {G : zG} {d b : Nat} {I : Nat → Nat → Int32} {L : Nat → Nat → Int64} {R : zR} {x0 : Int32} {x1 : Int32} {x2 : Int32} {x3 : Int32} {x4 : Int32} (hR : zR0 R)
    (K : ((¬ x0 = 2 → ((¬ x3 = 3 → ((¬ x0 = 1 → ((¬ x0 = 4 → ((¬ x0 = 3 → R = (some (.int (zcap (x1 + (x2 / 2)))), zh b I L)) ∧ (x0 = 3 → (((zcap (x1 + (x2 / 2))) ≤ 4 → R = (some (.int (zcap (x1 + (x2 / 2)))), zh b I L)) ∧ (¬ (zcap (x1 + (x2 / 2))) ≤ 4 → R = (some (.int 4), zh b I L)))))) ∧ (x0 = 4 → ((¬ (zrem x4 2) = 1 → ((¬ x0 = 3 → R = (some (.int (zcap (x1 + (x2 / 2)))), zh b I L)) ∧ (x0 = 3 → (((zcap (x1 + (x2 / 2))) ≤ 4 → R = (some (.int (zcap (x1 + (x2 / 2)))), zh b I L)) ∧ (¬ (zcap (x1 + (x2 / 2))) ≤ 4 → R = (some (.int 4), zh b I L)))))) ∧ ((zrem x4 2) = 1 → R = (some (.int (zcap (x1 + x2))), zh b I L)))))) ∧ (x0 = 1 → ((¬ x3 = 1 → R = (some (.int (zcap (x1 + x2))), zh b I L)) ∧ (x3 = 1 → R = (some (.int (zcap ((x1 + x2) / 2))), zh b I L)))))) ∧ (x3 = 3 → R = (some (.int 0), zh b I L)))) ∧ (x0 = 2 → ((¬ x3 = 1 → R = (some (.int (zcap ((x1 + x2) + 2))), zh b I L)) ∧ (x3 = 1 → R = (some (.int (zcap (((x1 + x2) / 2) + 2))), zh b I L)))))) :
    zA G (d + 1) mX12_paceOf 0 [some (.int x0), some (.int x1), some (.int x2), some (.int x3), some (.int x4), none] [] (zh b I L) R := by
  refine zi_iload_n dX12_paceOf_0 rfl rfl ?_
  refine zi_iconst (v := 2) dX12_paceOf_1 (by decide) ?_
  refine zi_icmp_ne (tgt := 27) dX12_paceOf_2 (by decide) (fun c1 => ?_) (fun c1 => ?_)
  · have K := K.1 c1
    refine zi_iload_n dX12_paceOf_27 rfl rfl ?_
    refine zi_iconst (v := 3) dX12_paceOf_28 (by decide) ?_
    refine zi_icmp_ne (tgt := 34) dX12_paceOf_29 (by decide) (fun c2 => ?_) (fun c2 => ?_)
    · have K := K.1 c2
      refine zi_iload_n dX12_paceOf_34 rfl rfl ?_
      refine zi_iconst (v := 1) dX12_paceOf_35 (by decide) ?_
      refine zi_icmp_ne (tgt := 59) dX12_paceOf_36 (by decide) (fun c3 => ?_) (fun c3 => ?_)
      · have K := K.1 c3
        refine zi_iload_n dX12_paceOf_59 rfl rfl ?_
        refine zi_iconst (v := 4) dX12_paceOf_60 (by decide) ?_
        refine zi_icmp_ne (tgt := 79) dX12_paceOf_61 (by decide) (fun c4 => ?_) (fun c4 => ?_)
        · have K := K.1 c4
          refine zi_iload_n dX12_paceOf_79 rfl rfl ?_
          refine zi_iload_n dX12_paceOf_80 rfl rfl ?_
          refine zi_iconst (v := 2) dX12_paceOf_81 (by decide) ?_
          refine zi_idiv dX12_paceOf_82 (by decide) ?_
          refine zi_iadd dX12_paceOf_83 ?_
          refine zi_callS (N := mX12_capped) (av := [.int (x1 + (x2 / 2))]) (st := []) (R1 := (some (.int (zcap (x1 + (x2 / 2)))), zh b I L)) dX12_paceOf_84 okX12_capped u_1011 u_1012 arX12_capped rfl (Nat.le_of_ble_eq_true rfl) (kX12_capped _) hR ?_
          show zA G (d + 1) mX12_paceOf 87 [some (.int x0), some (.int x1), some (.int x2), some (.int x3), some (.int x4), none] [.int (zcap (x1 + (x2 / 2)))] (zh b I L) R
          refine zi_istore (ls' := [some (.int x0), some (.int x1), some (.int x2), some (.int x3), some (.int x4), some (.int (zcap (x1 + (x2 / 2))))]) dX12_paceOf_87 (by decide) rfl ?_
          refine zi_iload_n dX12_paceOf_89 rfl rfl ?_
          refine zi_iconst (v := 3) dX12_paceOf_90 (by decide) ?_
          refine zi_icmp_ne (tgt := 104) dX12_paceOf_91 (by decide) (fun c5 => ?_) (fun c5 => ?_)
          · have K := K.1 c5
            refine zi_iload dX12_paceOf_104 rfl ?_
            subst K
            exact zi_ireturn dX12_paceOf_106 rfl rfl
          · have K := K.2 c5
            refine zi_iload dX12_paceOf_94 rfl ?_
            refine zi_iconst (v := 4) dX12_paceOf_96 (by decide) ?_
            refine zi_icmp_le (tgt := 104) dX12_paceOf_97 (by decide) (fun c6 => ?_) (fun c6 => ?_)
            · have K := K.1 c6
              refine zi_iload dX12_paceOf_104 rfl ?_
              subst K
              exact zi_ireturn dX12_paceOf_106 rfl rfl
            · have K := K.2 c6
              refine zi_iconst (v := 4) dX12_paceOf_100 (by decide) ?_
              refine zi_goto (tgt := 106) dX12_paceOf_101 (by decide) ?_
              subst K
              exact zi_ireturn dX12_paceOf_106 rfl rfl
        · have K := K.2 c4
          refine zi_iload dX12_paceOf_64 rfl ?_
          refine zi_iconst (v := 2) dX12_paceOf_66 (by decide) ?_
          refine zi_irem dX12_paceOf_67 (by decide) ?_
          refine zi_iconst (v := 1) dX12_paceOf_68 (by decide) ?_
          refine zi_icmp_ne (tgt := 79) dX12_paceOf_69 (by decide) (fun c7 => ?_) (fun c7 => ?_)
          · have K := K.1 c7
            refine zi_iload_n dX12_paceOf_79 rfl rfl ?_
            refine zi_iload_n dX12_paceOf_80 rfl rfl ?_
            refine zi_iconst (v := 2) dX12_paceOf_81 (by decide) ?_
            refine zi_idiv dX12_paceOf_82 (by decide) ?_
            refine zi_iadd dX12_paceOf_83 ?_
            refine zi_callS (N := mX12_capped) (av := [.int (x1 + (x2 / 2))]) (st := []) (R1 := (some (.int (zcap (x1 + (x2 / 2)))), zh b I L)) dX12_paceOf_84 okX12_capped u_1011 u_1012 arX12_capped rfl (Nat.le_of_ble_eq_true rfl) (kX12_capped _) hR ?_
            show zA G (d + 1) mX12_paceOf 87 [some (.int x0), some (.int x1), some (.int x2), some (.int x3), some (.int x4), none] [.int (zcap (x1 + (x2 / 2)))] (zh b I L) R
            refine zi_istore (ls' := [some (.int x0), some (.int x1), some (.int x2), some (.int x3), some (.int x4), some (.int (zcap (x1 + (x2 / 2))))]) dX12_paceOf_87 (by decide) rfl ?_
            refine zi_iload_n dX12_paceOf_89 rfl rfl ?_
            refine zi_iconst (v := 3) dX12_paceOf_90 (by decide) ?_
            refine zi_icmp_ne (tgt := 104) dX12_paceOf_91 (by decide) (fun c8 => ?_) (fun c8 => ?_)
            · have K := K.1 c8
              refine zi_iload dX12_paceOf_104 rfl ?_
              subst K
              exact zi_ireturn dX12_paceOf_106 rfl rfl
            · have K := K.2 c8
              refine zi_iload dX12_paceOf_94 rfl ?_
              refine zi_iconst (v := 4) dX12_paceOf_96 (by decide) ?_
              refine zi_icmp_le (tgt := 104) dX12_paceOf_97 (by decide) (fun c9 => ?_) (fun c9 => ?_)
              · have K := K.1 c9
                refine zi_iload dX12_paceOf_104 rfl ?_
                subst K
                exact zi_ireturn dX12_paceOf_106 rfl rfl
              · have K := K.2 c9
                refine zi_iconst (v := 4) dX12_paceOf_100 (by decide) ?_
                refine zi_goto (tgt := 106) dX12_paceOf_101 (by decide) ?_
                subst K
                exact zi_ireturn dX12_paceOf_106 rfl rfl
          · have K := K.2 c7
            refine zi_iload_n dX12_paceOf_72 rfl rfl ?_
            refine zi_iload_n dX12_paceOf_73 rfl rfl ?_
            refine zi_iadd dX12_paceOf_74 ?_
            refine zi_callS (N := mX12_capped) (av := [.int (x1 + x2)]) (st := []) (R1 := (some (.int (zcap (x1 + x2))), zh b I L)) dX12_paceOf_75 okX12_capped u_1011 u_1012 arX12_capped rfl (Nat.le_of_ble_eq_true rfl) (kX12_capped _) hR ?_
            show zA G (d + 1) mX12_paceOf 78 [some (.int x0), some (.int x1), some (.int x2), some (.int x3), some (.int x4), none] [.int (zcap (x1 + x2))] (zh b I L) R
            subst K
            exact zi_ireturn dX12_paceOf_78 rfl rfl
      · have K := K.2 c3
        refine zi_iload_n dX12_paceOf_39 rfl rfl ?_
        refine zi_iconst (v := 1) dX12_paceOf_40 (by decide) ?_
        refine zi_icmp_ne (tgt := 52) dX12_paceOf_41 (by decide) (fun c10 => ?_) (fun c10 => ?_)
        · have K := K.1 c10
          refine zi_iload_n dX12_paceOf_52 rfl rfl ?_
          refine zi_iload_n dX12_paceOf_53 rfl rfl ?_
          refine zi_iadd dX12_paceOf_54 ?_
          refine zi_callS (N := mX12_capped) (av := [.int (x1 + x2)]) (st := []) (R1 := (some (.int (zcap (x1 + x2))), zh b I L)) dX12_paceOf_55 okX12_capped u_1011 u_1012 arX12_capped rfl (Nat.le_of_ble_eq_true rfl) (kX12_capped _) hR ?_
          show zA G (d + 1) mX12_paceOf 58 [some (.int x0), some (.int x1), some (.int x2), some (.int x3), some (.int x4), none] [.int (zcap (x1 + x2))] (zh b I L) R
          subst K
          exact zi_ireturn dX12_paceOf_58 rfl rfl
        · have K := K.2 c10
          refine zi_iload_n dX12_paceOf_44 rfl rfl ?_
          refine zi_iload_n dX12_paceOf_45 rfl rfl ?_
          refine zi_iadd dX12_paceOf_46 ?_
          refine zi_iconst (v := 2) dX12_paceOf_47 (by decide) ?_
          refine zi_idiv dX12_paceOf_48 (by decide) ?_
          refine zi_goto (tgt := 55) dX12_paceOf_49 (by decide) ?_
          refine zi_callS (N := mX12_capped) (av := [.int ((x1 + x2) / 2)]) (st := []) (R1 := (some (.int (zcap ((x1 + x2) / 2))), zh b I L)) dX12_paceOf_55 okX12_capped u_1011 u_1012 arX12_capped rfl (Nat.le_of_ble_eq_true rfl) (kX12_capped _) hR ?_
          show zA G (d + 1) mX12_paceOf 58 [some (.int x0), some (.int x1), some (.int x2), some (.int x3), some (.int x4), none] [.int (zcap ((x1 + x2) / 2))] (zh b I L) R
          subst K
          exact zi_ireturn dX12_paceOf_58 rfl rfl
    · have K := K.2 c2
      refine zi_iconst (v := 0) dX12_paceOf_32 (by decide) ?_
      subst K
      exact zi_ireturn dX12_paceOf_33 rfl rfl
  · have K := K.2 c1
    refine zi_iload_n dX12_paceOf_5 rfl rfl ?_
    refine zi_iconst (v := 1) dX12_paceOf_6 (by decide) ?_
    refine zi_icmp_ne (tgt := 18) dX12_paceOf_7 (by decide) (fun c11 => ?_) (fun c11 => ?_)
    · have K := K.1 c11
      refine zi_iload_n dX12_paceOf_18 rfl rfl ?_
      refine zi_iload_n dX12_paceOf_19 rfl rfl ?_
      refine zi_iadd dX12_paceOf_20 ?_
      refine zi_iconst (v := 2) dX12_paceOf_21 (by decide) ?_
      refine zi_iadd dX12_paceOf_22 ?_
      refine zi_callS (N := mX12_capped) (av := [.int ((x1 + x2) + 2)]) (st := []) (R1 := (some (.int (zcap ((x1 + x2) + 2))), zh b I L)) dX12_paceOf_23 okX12_capped u_1011 u_1012 arX12_capped rfl (Nat.le_of_ble_eq_true rfl) (kX12_capped _) hR ?_
      show zA G (d + 1) mX12_paceOf 26 [some (.int x0), some (.int x1), some (.int x2), some (.int x3), some (.int x4), none] [.int (zcap ((x1 + x2) + 2))] (zh b I L) R
      subst K
      exact zi_ireturn dX12_paceOf_26 rfl rfl
    · have K := K.2 c11
      refine zi_iload_n dX12_paceOf_10 rfl rfl ?_
      refine zi_iload_n dX12_paceOf_11 rfl rfl ?_
      refine zi_iadd dX12_paceOf_12 ?_
      refine zi_iconst (v := 2) dX12_paceOf_13 (by decide) ?_
      refine zi_idiv dX12_paceOf_14 (by decide) ?_
      refine zi_goto (tgt := 21) dX12_paceOf_15 (by decide) ?_
      refine zi_iconst (v := 2) dX12_paceOf_21 (by decide) ?_
      refine zi_iadd dX12_paceOf_22 ?_
      refine zi_callS (N := mX12_capped) (av := [.int (((x1 + x2) / 2) + 2)]) (st := []) (R1 := (some (.int (zcap (((x1 + x2) / 2) + 2))), zh b I L)) dX12_paceOf_23 okX12_capped u_1011 u_1012 arX12_capped rfl (Nat.le_of_ble_eq_true rfl) (kX12_capped _) hR ?_
      show zA G (d + 1) mX12_paceOf 26 [some (.int x0), some (.int x1), some (.int x2), some (.int x3), some (.int x4), none] [.int (zcap (((x1 + x2) / 2) + 2))] (zh b I L) R
      subst K
      exact zi_ireturn dX12_paceOf_26 rfl rfl
set_option maxRecDepth 100000 in
theorem tX12_isCell_0 {G : zG} {d b : Nat} {I : Nat → Nat → Int32} {L : Nat → Nat → Int64} {R : zR} {x1 : Int32} {x2 : Int32} (hR : zR0 R)
    (K : ((¬ (0 ≤ x1.toInt64 ∧ x1.toInt64 ≤ (((I 57 0) - 1).toInt64)) → R = (some (.int 0), zh b I L)) ∧ ((0 ≤ x1.toInt64 ∧ x1.toInt64 ≤ (((I 57 0) - 1).toInt64)) → ((¬ (0 ≤ x2.toInt64 ∧ x2.toInt64 ≤ (((I 57 1) - 1).toInt64)) → R = (some (.int 0), zh b I L)) ∧ ((0 ≤ x2.toInt64 ∧ x2.toInt64 ≤ (((I 57 1) - 1).toInt64)) → R = (some (.int 1), zh b I L)))))) :
    zA G (d + 1) mX12_isCell 0 [some (.ref 57), some (.int x1), some (.int x2)] [] (zh b I L) R := by
  refine zi_iload_n dX12_isCell_0 rfl rfl ?_
  refine zi_i2l dX12_isCell_1 ?_
  refine zi_lconst (v := 0) dX12_isCell_2 (by decide) ?_
  refine zi_aload_n dX12_isCell_3 rfl rfl ?_
  refine zi_iconst (v := 0) dX12_isCell_4 (by decide) ?_
  refine zg_iaload dX12_isCell_5 (rfl) (Nat.le_of_ble_eq_true rfl) (zvi (by decide)) ?_
  show zA G (d + 1) mX12_isCell 6 [some (.ref 57), some (.int x1), some (.int x2)] [.int (I 57 0), .long 0, .long x1.toInt64] (zh b I L) R
  refine zi_iconst (v := 1) dX12_isCell_6 (by decide) ?_
  refine zi_isub dX12_isCell_7 ?_
  refine zi_i2l dX12_isCell_8 ?_
  refine zi_callS (N := mX12_in) (av := [.long x1.toInt64, .long 0, .long (((I 57 0) - 1).toInt64)]) (st := []) (R1 := (some (.int (zb (0 ≤ x1.toInt64 ∧ x1.toInt64 ≤ (((I 57 0) - 1).toInt64)))), zh b I L)) dX12_isCell_9 okX12_in u_803 u_804 arX12_in rfl (Nat.le_of_ble_eq_true rfl) (kX12_in _ _ _) hR ?_
  show zA G (d + 1) mX12_isCell 12 [some (.ref 57), some (.int x1), some (.int x2)] [.int (zb (0 ≤ x1.toInt64 ∧ x1.toInt64 ≤ (((I 57 0) - 1).toInt64)))] (zh b I L) R
  refine zi_if_eq (tgt := 34) dX12_isCell_12 (by decide) (fun c1 => ?_) (fun c1 => ?_)
  · have K := K.1 (zb_0 c1)
    refine zi_iconst (v := 0) dX12_isCell_34 (by decide) ?_
    subst K
    exact zi_ireturn dX12_isCell_35 rfl (by decide)
  · have K := K.2 (zb_1 c1)
    refine zi_iload_n dX12_isCell_15 rfl rfl ?_
    refine zi_i2l dX12_isCell_16 ?_
    refine zi_lconst (v := 0) dX12_isCell_17 (by decide) ?_
    refine zi_aload_n dX12_isCell_18 rfl rfl ?_
    refine zi_iconst (v := 1) dX12_isCell_19 (by decide) ?_
    refine zg_iaload dX12_isCell_20 (rfl) (Nat.le_of_ble_eq_true rfl) (zvi (by decide)) ?_
    show zA G (d + 1) mX12_isCell 21 [some (.ref 57), some (.int x1), some (.int x2)] [.int (I 57 1), .long 0, .long x2.toInt64] (zh b I L) R
    refine zi_iconst (v := 1) dX12_isCell_21 (by decide) ?_
    refine zi_isub dX12_isCell_22 ?_
    refine zi_i2l dX12_isCell_23 ?_
    refine zi_callS (N := mX12_in) (av := [.long x2.toInt64, .long 0, .long (((I 57 1) - 1).toInt64)]) (st := []) (R1 := (some (.int (zb (0 ≤ x2.toInt64 ∧ x2.toInt64 ≤ (((I 57 1) - 1).toInt64)))), zh b I L)) dX12_isCell_24 okX12_in u_803 u_804 arX12_in rfl (Nat.le_of_ble_eq_true rfl) (kX12_in _ _ _) hR ?_
    show zA G (d + 1) mX12_isCell 27 [some (.ref 57), some (.int x1), some (.int x2)] [.int (zb (0 ≤ x2.toInt64 ∧ x2.toInt64 ≤ (((I 57 1) - 1).toInt64)))] (zh b I L) R
    refine zi_if_eq (tgt := 34) dX12_isCell_27 (by decide) (fun c2 => ?_) (fun c2 => ?_)
    · have K := K.1 (zb_0 c2)
      refine zi_iconst (v := 0) dX12_isCell_34 (by decide) ?_
      subst K
      exact zi_ireturn dX12_isCell_35 rfl (by decide)
    · have K := K.2 (zb_1 c2)
      refine zi_iconst (v := 1) dX12_isCell_30 (by decide) ?_
      refine zi_goto (tgt := 35) dX12_isCell_31 (by decide) ?_
      subst K
      exact zi_ireturn dX12_isCell_35 rfl (by decide)
set_option maxRecDepth 100000 in
theorem tX12_isRunnerAt_0 {G : zG} {d b : Nat} {I : Nat → Nat → Int32} {L : Nat → Nat → Int64} {R : zR} {x1 : Int32} {x2 : Int32} {x3 : Int32} (hR : zR0 R)
    (K : ((¬ (0 ≤ x1.toInt64 ∧ x1.toInt64 ≤ 4) → R = (some (.int 0), zh b I L)) ∧ ((0 ≤ x1.toInt64 ∧ x1.toInt64 ≤ 4) → ((¬ (0 ≤ x2.toInt64 ∧ x2.toInt64 ≤ (((I 57 1) - 1).toInt64)) → R = (some (.int 0), zh b I L)) ∧ ((0 ≤ x2.toInt64 ∧ x2.toInt64 ≤ (((I 57 1) - 1).toInt64)) → ((¬ (0 ≤ x3.toInt64 ∧ x3.toInt64 ≤ 99) → R = (some (.int 0), zh b I L)) ∧ ((0 ≤ x3.toInt64 ∧ x3.toInt64 ≤ 99) → R = (some (.int 1), zh b I L)))))))) :
    zA G (d + 1) mX12_isRunnerAt 0 [some (.ref 57), some (.int x1), some (.int x2), some (.int x3)] [] (zh b I L) R := by
  refine zi_iload_n dX12_isRunnerAt_0 rfl rfl ?_
  refine zi_i2l dX12_isRunnerAt_1 ?_
  refine zi_lconst (v := 0) dX12_isRunnerAt_2 (by decide) ?_
  refine zi_ldc2 dX12_isRunnerAt_3 u_913 ?_
  refine zi_callS (N := mX12_in) (av := [.long x1.toInt64, .long 0, .long 4]) (st := []) (R1 := (some (.int (zb (0 ≤ x1.toInt64 ∧ x1.toInt64 ≤ 4))), zh b I L)) dX12_isRunnerAt_6 okX12_in u_803 u_804 arX12_in rfl (Nat.le_of_ble_eq_true rfl) (kX12_in _ _ _) hR ?_
  show zA G (d + 1) mX12_isRunnerAt 9 [some (.ref 57), some (.int x1), some (.int x2), some (.int x3)] [.int (zb (0 ≤ x1.toInt64 ∧ x1.toInt64 ≤ 4))] (zh b I L) R
  refine zi_if_eq (tgt := 43) dX12_isRunnerAt_9 (by decide) (fun c1 => ?_) (fun c1 => ?_)
  · have K := K.1 (zb_0 c1)
    refine zi_iconst (v := 0) dX12_isRunnerAt_43 (by decide) ?_
    subst K
    exact zi_ireturn dX12_isRunnerAt_44 rfl (by decide)
  · have K := K.2 (zb_1 c1)
    refine zi_iload_n dX12_isRunnerAt_12 rfl rfl ?_
    refine zi_i2l dX12_isRunnerAt_13 ?_
    refine zi_lconst (v := 0) dX12_isRunnerAt_14 (by decide) ?_
    refine zi_aload_n dX12_isRunnerAt_15 rfl rfl ?_
    refine zi_iconst (v := 1) dX12_isRunnerAt_16 (by decide) ?_
    refine zg_iaload dX12_isRunnerAt_17 (rfl) (Nat.le_of_ble_eq_true rfl) (zvi (by decide)) ?_
    show zA G (d + 1) mX12_isRunnerAt 18 [some (.ref 57), some (.int x1), some (.int x2), some (.int x3)] [.int (I 57 1), .long 0, .long x2.toInt64] (zh b I L) R
    refine zi_iconst (v := 1) dX12_isRunnerAt_18 (by decide) ?_
    refine zi_isub dX12_isRunnerAt_19 ?_
    refine zi_i2l dX12_isRunnerAt_20 ?_
    refine zi_callS (N := mX12_in) (av := [.long x2.toInt64, .long 0, .long (((I 57 1) - 1).toInt64)]) (st := []) (R1 := (some (.int (zb (0 ≤ x2.toInt64 ∧ x2.toInt64 ≤ (((I 57 1) - 1).toInt64)))), zh b I L)) dX12_isRunnerAt_21 okX12_in u_803 u_804 arX12_in rfl (Nat.le_of_ble_eq_true rfl) (kX12_in _ _ _) hR ?_
    show zA G (d + 1) mX12_isRunnerAt 24 [some (.ref 57), some (.int x1), some (.int x2), some (.int x3)] [.int (zb (0 ≤ x2.toInt64 ∧ x2.toInt64 ≤ (((I 57 1) - 1).toInt64)))] (zh b I L) R
    refine zi_if_eq (tgt := 43) dX12_isRunnerAt_24 (by decide) (fun c2 => ?_) (fun c2 => ?_)
    · have K := K.1 (zb_0 c2)
      refine zi_iconst (v := 0) dX12_isRunnerAt_43 (by decide) ?_
      subst K
      exact zi_ireturn dX12_isRunnerAt_44 rfl (by decide)
    · have K := K.2 (zb_1 c2)
      refine zi_iload_n dX12_isRunnerAt_27 rfl rfl ?_
      refine zi_i2l dX12_isRunnerAt_28 ?_
      refine zi_lconst (v := 0) dX12_isRunnerAt_29 (by decide) ?_
      refine zi_ldc2 dX12_isRunnerAt_30 u_914 ?_
      refine zi_callS (N := mX12_in) (av := [.long x3.toInt64, .long 0, .long 99]) (st := []) (R1 := (some (.int (zb (0 ≤ x3.toInt64 ∧ x3.toInt64 ≤ 99))), zh b I L)) dX12_isRunnerAt_33 okX12_in u_803 u_804 arX12_in rfl (Nat.le_of_ble_eq_true rfl) (kX12_in _ _ _) hR ?_
      show zA G (d + 1) mX12_isRunnerAt 36 [some (.ref 57), some (.int x1), some (.int x2), some (.int x3)] [.int (zb (0 ≤ x3.toInt64 ∧ x3.toInt64 ≤ 99))] (zh b I L) R
      refine zi_if_eq (tgt := 43) dX12_isRunnerAt_36 (by decide) (fun c3 => ?_) (fun c3 => ?_)
      · have K := K.1 (zb_0 c3)
        refine zi_iconst (v := 0) dX12_isRunnerAt_43 (by decide) ?_
        subst K
        exact zi_ireturn dX12_isRunnerAt_44 rfl (by decide)
      · have K := K.2 (zb_1 c3)
        refine zi_iconst (v := 1) dX12_isRunnerAt_39 (by decide) ?_
        refine zi_goto (tgt := 44) dX12_isRunnerAt_40 (by decide) ?_
        subst K
        exact zi_ireturn dX12_isRunnerAt_44 rfl (by decide)
