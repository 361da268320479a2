/-! rows by program: X12_goes, X12_down, X12_lay, X12_best, X12_fall, X12_downOf, X12_placeOf, X12_place, X12_meet, X12_meets, X12_clashes, X12_apart, X12_began, X12_rolls, X12_cheese, X12_fence, X12_feet, X12_bits, X12_catchers, X12_harmOfAll, X12_bale, X12_run, X12_undo, X12_hurt, X12_heal, X12_there, X12_waits, X12_drawn, X12_part, X12_image, X12_from, X12_status, X12_counted, X12_count, X12_digest -/
set_option maxRecDepth 100000 in
theorem tX12_goes_0 {G : zG} {d b : Nat} {I : Nat → Nat → Int32} {L : Nat → Nat → Int64} {R : zR} {x1 : Int32} {x2 : Int32} {x3 : Int32} (hR : zR0 R)
    (K : ((¬ (0 ≤ x1.toInt64 ∧ x1.toInt64 ≤ (I 57 2 - 1).toInt64) → (∃ (r2 : Int32) (I3 : Nat → Nat → Int32), zCall (d + 3) mX12_refuse [.ref 56, .int (-2)] (zh b I L) (some (.int r2), zh b I3 L) ∧ R = (some (.int r2), zh b I3 L))) ∧ ((0 ≤ x1.toInt64 ∧ x1.toInt64 ≤ (I 57 2 - 1).toInt64) → ((¬ (0 ≤ x2.toInt64 ∧ x2.toInt64 ≤ (I 57 0 - 1).toInt64) → (∃ (r6 : Int32) (I7 : Nat → Nat → Int32), zCall (d + 3) mX12_refuse [.ref 56, .int (-2)] (zh b I L) (some (.int r6), zh b I7 L) ∧ R = (some (.int r6), zh b I7 L))) ∧ ((0 ≤ x2.toInt64 ∧ x2.toInt64 ≤ (I 57 0 - 1).toInt64) → (((0 ≤ x3.toInt64 ∧ x3.toInt64 ≤ 3) → (∃ (I10 : Nat → Nat → Int32), zCall (d + 3) mX12_walks [.ref 56, .int x1] (zh b I L) (none, zh b I10 L) ∧ ((¬ x3 = 0 → ((¬ x3 = 1 → ((¬ x3 = 2 → (vp_in x2 8 ∧ R = (some (.int (I10 66 (zx x2))), zh b I10 L))) ∧ (x3 = 2 → (vp_in x2 9 ∧ R = (some (.int (I10 65 (zx x2))), zh b I10 L))))) ∧ (x3 = 1 → (vp_in x2 8 ∧ R = (some (.int (I10 64 (zx x2))), zh b I10 L))))) ∧ (x3 = 0 → (vp_in x2 9 ∧ R = (some (.int (I10 63 (zx x2))), zh b I10 L)))))) ∧ (¬ (0 ≤ x3.toInt64 ∧ x3.toInt64 ≤ 3) → (∃ (r19 : Int32) (I20 : Nat → Nat → Int32), zCall (d + 3) mX12_refuse [.ref 56, .int (-2)] (zh b I L) (some (.int r19), zh b I20 L) ∧ R = (some (.int r19), zh b I20 L))))))))) :
    zA G (d + 4) mX12_goes 0 [some (.ref 56), some (.int x1), some (.int x2), some (.int x3)] [] (zh b I L) R := by
  refine zi_aload_n dX12_goes_0 rfl rfl ?_
  refine zi_iload_n dX12_goes_1 rfl rfl ?_
  refine zi_callV (N := mX12_isRunner) (av := [.int x1]) (st := []) (R1 := (some (.int (zb (0 ≤ x1.toInt64 ∧ x1.toInt64 ≤ (I 57 2 - 1).toInt64))), zh b I L)) dX12_goes_2 okX12_isRunner u_922 u_924 s_24 zc12 (rfl) (Nat.le_of_ble_eq_true rfl) arX12_isRunner rfl (Nat.le_of_ble_eq_true rfl) (kX12_isRunner _) hR ?_
  show zA G (d + 4) mX12_goes 5 [some (.ref 56), some (.int x1), some (.int x2), some (.int x3)] [.int (zb (0 ≤ x1.toInt64 ∧ x1.toInt64 ≤ (I 57 2 - 1).toInt64))] (zh b I L) R
  refine zi_if_eq (tgt := 28) dX12_goes_5 (by decide) (fun c1 => ?_) (fun c1 => ?_)
  · have K := K.1 (zb_0 c1)
    refine zi_aload_n dX12_goes_28 rfl rfl ?_
    refine zi_bipush (v := (-2)) dX12_goes_29 (by decide) ?_
    obtain ⟨r2, I3, h4, K⟩ := K
    refine zi_callV (N := mX12_refuse) (av := [.int (-2)]) (st := []) (R1 := (some (.int r2), zh b I3 L)) dX12_goes_31 okX12_refuse u_886 u_888 s_23 zc12 (rfl) (Nat.le_of_ble_eq_true rfl) arX12_refuse rfl (Nat.le_of_ble_eq_true rfl) (h4) hR ?_
    show zA G (d + 4) mX12_goes 34 [some (.ref 56), some (.int x1), some (.int x2), some (.int x3)] [.int r2] (zh b I3 L) R
    subst K
    exact zi_ireturn dX12_goes_34 rfl rfl
  · have K := K.2 (zb_1 c1)
    refine zi_aload_n dX12_goes_8 rfl rfl ?_
    refine zi_iload_n dX12_goes_9 rfl rfl ?_
    refine zi_callV (N := mX12_isRow) (av := [.int x2]) (st := []) (R1 := (some (.int (zb (0 ≤ x2.toInt64 ∧ x2.toInt64 ≤ (I 57 0 - 1).toInt64))), zh b I L)) dX12_goes_10 okX12_isRow u_926 u_928 s_25 zc12 (rfl) (Nat.le_of_ble_eq_true rfl) arX12_isRow rfl (Nat.le_of_ble_eq_true rfl) (kX12_isRow _) hR ?_
    show zA G (d + 4) mX12_goes 13 [some (.ref 56), some (.int x1), some (.int x2), some (.int x3)] [.int (zb (0 ≤ x2.toInt64 ∧ x2.toInt64 ≤ (I 57 0 - 1).toInt64))] (zh b I L) R
    refine zi_if_eq (tgt := 28) dX12_goes_13 (by decide) (fun c5 => ?_) (fun c5 => ?_)
    · have K := K.1 (zb_0 c5)
      refine zi_aload_n dX12_goes_28 rfl rfl ?_
      refine zi_bipush (v := (-2)) dX12_goes_29 (by decide) ?_
      obtain ⟨r6, I7, h8, K⟩ := K
      refine zi_callV (N := mX12_refuse) (av := [.int (-2)]) (st := []) (R1 := (some (.int r6), zh b I7 L)) dX12_goes_31 okX12_refuse u_886 u_888 s_23 zc12 (rfl) (Nat.le_of_ble_eq_true rfl) arX12_refuse rfl (Nat.le_of_ble_eq_true rfl) (h8) hR ?_
      show zA G (d + 4) mX12_goes 34 [some (.ref 56), some (.int x1), some (.int x2), some (.int x3)] [.int r6] (zh b I7 L) R
      subst K
      exact zi_ireturn dX12_goes_34 rfl rfl
    · have K := K.2 (zb_1 c5)
      refine zi_iload_n dX12_goes_16 rfl rfl ?_
      refine zi_i2l dX12_goes_17 ?_
      refine zi_lconst (v := 0) dX12_goes_18 (by decide) ?_
      refine zi_ldc2 dX12_goes_19 u_898 ?_
      refine zi_callS (N := mX12_in) (av := [.long x3.toInt64, .long 0, .long 3]) (st := []) (R1 := (some (.int (zb (0 ≤ x3.toInt64 ∧ x3.toInt64 ≤ 3))), zh b I L)) dX12_goes_22 okX12_in u_803 u_804 arX12_in rfl (Nat.le_of_ble_eq_true rfl) (kX12_in _ _ _) hR ?_
      show zA G (d + 4) mX12_goes 25 [some (.ref 56), some (.int x1), some (.int x2), some (.int x3)] [.int (zb (0 ≤ x3.toInt64 ∧ x3.toInt64 ≤ 3))] (zh b I L) R
      refine zi_if_ne (tgt := 35) dX12_goes_25 (by decide) (fun c9 => ?_) (fun c9 => ?_)
      · have K := K.1 (zb_1 c9)
        refine zi_aload_n dX12_goes_35 rfl rfl ?_
        refine zi_iload_n dX12_goes_36 rfl rfl ?_
        obtain ⟨I10, h11, K⟩ := K
        refine zi_callV (N := mX12_walks) (av := [.int x1]) (st := []) (R1 := (none, zh b I10 L)) dX12_goes_37 okX12_walks u_1000 u_1002 s_34 zc12 (rfl) (Nat.le_of_ble_eq_true rfl) arX12_walks rfl (Nat.le_of_ble_eq_true rfl) (h11) hR ?_
        show zA G (d + 4) mX12_goes 40 [some (.ref 56), some (.int x1), some (.int x2), some (.int x3)] [] (zh b I10 L) R
        refine zi_iload_n dX12_goes_40 rfl rfl ?_
        refine zi_if_ne (tgt := 53) dX12_goes_41 (by decide) (fun c12 => ?_) (fun c12 => ?_)
        · have K := K.1 c12
          refine zi_iload_n dX12_goes_53 rfl rfl ?_
          refine zi_iconst (v := 1) dX12_goes_54 (by decide) ?_
          refine zi_icmp_ne (tgt := 67) dX12_goes_55 (by decide) (fun c13 => ?_) (fun c13 => ?_)
          · have K := K.1 c13
            refine zi_iload_n dX12_goes_67 rfl rfl ?_
            refine zi_iconst (v := 2) dX12_goes_68 (by decide) ?_
            refine zi_icmp_ne (tgt := 81) dX12_goes_69 (by decide) (fun c14 => ?_) (fun c14 => ?_)
            · have K := K.1 c14
              refine zi_aload_n dX12_goes_81 rfl rfl ?_
              refine zg_getF (k := 16) (v := .ref 66) dX12_goes_82 zc12 rfl (Nat.le_of_ble_eq_true rfl) (Nat.le_of_ble_eq_true rfl) u_822 rfl (rfl) ?_
              refine zi_iload_n dX12_goes_85 rfl rfl ?_
              have o15 := K.1
              have K := K.2
              refine zg_iaload dX12_goes_86 (rfl) (Nat.le_of_ble_eq_true rfl) o15 ?_
              subst K
              exact zi_ireturn dX12_goes_87 rfl rfl
            · have K := K.2 c14
              refine zi_aload_n dX12_goes_72 rfl rfl ?_
              refine zg_getF (k := 15) (v := .ref 65) dX12_goes_73 zc12 rfl (Nat.le_of_ble_eq_true rfl) (Nat.le_of_ble_eq_true rfl) u_821 rfl (rfl) ?_
              refine zi_iload_n dX12_goes_76 rfl rfl ?_
              have o16 := K.1
              have K := K.2
              refine zg_iaload dX12_goes_77 (rfl) (Nat.le_of_ble_eq_true rfl) o16 ?_
              refine zi_goto (tgt := 87) dX12_goes_78 (by decide) ?_
              subst K
              exact zi_ireturn dX12_goes_87 rfl rfl
          · have K := K.2 c13
            refine zi_aload_n dX12_goes_58 rfl rfl ?_
            refine zg_getF (k := 14) (v := .ref 64) dX12_goes_59 zc12 rfl (Nat.le_of_ble_eq_true rfl) (Nat.le_of_ble_eq_true rfl) u_820 rfl (rfl) ?_
            refine zi_iload_n dX12_goes_62 rfl rfl ?_
            have o17 := K.1
            have K := K.2
            refine zg_iaload dX12_goes_63 (rfl) (Nat.le_of_ble_eq_true rfl) o17 ?_
            refine zi_goto (tgt := 87) dX12_goes_64 (by decide) ?_
            subst K
            exact zi_ireturn dX12_goes_87 rfl rfl
        · have K := K.2 c12
          refine zi_aload_n dX12_goes_44 rfl rfl ?_
          refine zg_getF (k := 13) (v := .ref 63) dX12_goes_45 zc12 rfl (Nat.le_of_ble_eq_true rfl) (Nat.le_of_ble_eq_true rfl) u_819 rfl (rfl) ?_
          refine zi_iload_n dX12_goes_48 rfl rfl ?_
          have o18 := K.1
          have K := K.2
          refine zg_iaload dX12_goes_49 (rfl) (Nat.le_of_ble_eq_true rfl) o18 ?_
          refine zi_goto (tgt := 87) dX12_goes_50 (by decide) ?_
          subst K
          exact zi_ireturn dX12_goes_87 rfl rfl
      · have K := K.2 (zb_0 c9)
        refine zi_aload_n dX12_goes_28 rfl rfl ?_
        refine zi_bipush (v := (-2)) dX12_goes_29 (by decide) ?_
        obtain ⟨r19, I20, h21, K⟩ := K
        refine zi_callV (N := mX12_refuse) (av := [.int (-2)]) (st := []) (R1 := (some (.int r19), zh b I20 L)) dX12_goes_31 okX12_refuse u_886 u_888 s_23 zc12 (rfl) (Nat.le_of_ble_eq_true rfl) arX12_refuse rfl (Nat.le_of_ble_eq_true rfl) (h21) hR ?_
        show zA G (d + 4) mX12_goes 34 [some (.ref 56), some (.int x1), some (.int x2), some (.int x3)] [.int r19] (zh b I20 L) R
        subst K
        exact zi_ireturn dX12_goes_34 rfl rfl
set_option maxRecDepth 100000 in
theorem tX12_down_0 {G : zG} {d b : Nat} {I : Nat → Nat → Int32} {L : Nat → Nat → Int64} {R : zR} {x1 : Int32} {x2 : Int32} (hR : zR0 R)
    (K : ((¬ (0 ≤ x1.toInt64 ∧ x1.toInt64 ≤ (I 57 2 - 1).toInt64) → (∃ (r2 : Int32) (I3 : Nat → Nat → Int32), zCall (d + 3) mX12_refuse [.ref 56, .int (-2)] (zh b I L) (some (.int r2), zh b I3 L) ∧ R = (some (.int r2), zh b I3 L))) ∧ ((0 ≤ x1.toInt64 ∧ x1.toInt64 ≤ (I 57 2 - 1).toInt64) → (((0 ≤ x2.toInt64 ∧ x2.toInt64 ≤ 2) → (∃ (I6 : Nat → Nat → Int32), zCall (d + 3) mX12_walks [.ref 56, .int x1] (zh b I L) (none, zh b I6 L) ∧ ((¬ x2 = 0 → ((¬ x2 = 1 → (vp_in (I6 57 0) 9 ∧ R = (some (.int (I6 63 (zx (I6 57 0)))), zh b I6 L))) ∧ (x2 = 1 → (∃ (r11 : Int32), zCall (d + 3) mX12_harm [.ref 56] (zh b I6 L) (some (.int r11), zh b I6 L) ∧ R = (some (.int r11), zh b I6 L))))) ∧ (x2 = 0 → (vp_in (I6 57 0) 9 ∧ R = (some (.int (I6 65 (zx (I6 57 0)))), zh b I6 L)))))) ∧ (¬ (0 ≤ x2.toInt64 ∧ x2.toInt64 ≤ 2) → (∃ (r14 : Int32) (I15 : Nat → Nat → Int32), zCall (d + 3) mX12_refuse [.ref 56, .int (-2)] (zh b I L) (some (.int r14), zh b I15 L) ∧ R = (some (.int r14), zh b I15 L))))))) :
    zA G (d + 4) mX12_down 0 [some (.ref 56), some (.int x1), some (.int x2)] [] (zh b I L) R := by
  refine zi_aload_n dX12_down_0 rfl rfl ?_
  refine zi_iload_n dX12_down_1 rfl rfl ?_
  refine zi_callV (N := mX12_isRunner) (av := [.int x1]) (st := []) (R1 := (some (.int (zb (0 ≤ x1.toInt64 ∧ x1.toInt64 ≤ (I 57 2 - 1).toInt64))), zh b I L)) dX12_down_2 okX12_isRunner u_922 u_924 s_24 zc12 (rfl) (Nat.le_of_ble_eq_true rfl) arX12_isRunner rfl (Nat.le_of_ble_eq_true rfl) (kX12_isRunner _) hR ?_
  show zA G (d + 4) mX12_down 5 [some (.ref 56), some (.int x1), some (.int x2)] [.int (zb (0 ≤ x1.toInt64 ∧ x1.toInt64 ≤ (I 57 2 - 1).toInt64))] (zh b I L) R
  refine zi_if_eq (tgt := 20) dX12_down_5 (by decide) (fun c1 => ?_) (fun c1 => ?_)
  · have K := K.1 (zb_0 c1)
    refine zi_aload_n dX12_down_20 rfl rfl ?_
    refine zi_bipush (v := (-2)) dX12_down_21 (by decide) ?_
    obtain ⟨r2, I3, h4, K⟩ := K
    refine zi_callV (N := mX12_refuse) (av := [.int (-2)]) (st := []) (R1 := (some (.int r2), zh b I3 L)) dX12_down_23 okX12_refuse u_886 u_888 s_23 zc12 (rfl) (Nat.le_of_ble_eq_true rfl) arX12_refuse rfl (Nat.le_of_ble_eq_true rfl) (h4) hR ?_
    show zA G (d + 4) mX12_down 26 [some (.ref 56), some (.int x1), some (.int x2)] [.int r2] (zh b I3 L) R
    subst K
    exact zi_ireturn dX12_down_26 rfl rfl
  · have K := K.2 (zb_1 c1)
    refine zi_iload_n dX12_down_8 rfl rfl ?_
    refine zi_i2l dX12_down_9 ?_
    refine zi_lconst (v := 0) dX12_down_10 (by decide) ?_
    refine zi_ldc2 dX12_down_11 u_930 ?_
    refine zi_callS (N := mX12_in) (av := [.long x2.toInt64, .long 0, .long 2]) (st := []) (R1 := (some (.int (zb (0 ≤ x2.toInt64 ∧ x2.toInt64 ≤ 2))), zh b I L)) dX12_down_14 okX12_in u_803 u_804 arX12_in rfl (Nat.le_of_ble_eq_true rfl) (kX12_in _ _ _) hR ?_
    show zA G (d + 4) mX12_down 17 [some (.ref 56), some (.int x1), some (.int x2)] [.int (zb (0 ≤ x2.toInt64 ∧ x2.toInt64 ≤ 2))] (zh b I L) R
    refine zi_if_ne (tgt := 27) dX12_down_17 (by decide) (fun c5 => ?_) (fun c5 => ?_)
    · have K := K.1 (zb_1 c5)
      refine zi_aload_n dX12_down_27 rfl rfl ?_
      refine zi_iload_n dX12_down_28 rfl rfl ?_
      obtain ⟨I6, h7, K⟩ := K
      refine zi_callV (N := mX12_walks) (av := [.int x1]) (st := []) (R1 := (none, zh b I6 L)) dX12_down_29 okX12_walks u_1000 u_1002 s_34 zc12 (rfl) (Nat.le_of_ble_eq_true rfl) arX12_walks rfl (Nat.le_of_ble_eq_true rfl) (h7) hR ?_
      show zA G (d + 4) mX12_down 32 [some (.ref 56), some (.int x1), some (.int x2)] [] (zh b I6 L) R
      refine zi_iload_n dX12_down_32 rfl rfl ?_
      refine zi_if_ne (tgt := 50) dX12_down_33 (by decide) (fun c8 => ?_) (fun c8 => ?_)
      · have K := K.1 c8
        refine zi_iload_n dX12_down_50 rfl rfl ?_
        refine zi_iconst (v := 1) dX12_down_51 (by decide) ?_
        refine zi_icmp_ne (tgt := 62) dX12_down_52 (by decide) (fun c9 => ?_) (fun c9 => ?_)
        · have K := K.1 c9
          refine zi_aload_n dX12_down_62 rfl rfl ?_
          refine zg_getF (k := 13) (v := .ref 63) dX12_down_63 zc12 rfl (Nat.le_of_ble_eq_true rfl) (Nat.le_of_ble_eq_true rfl) u_819 rfl (rfl) ?_
          refine zi_aload_n dX12_down_66 rfl rfl ?_
          refine zg_getF (k := 0) (v := .ref 57) dX12_down_67 zc12 rfl (Nat.le_of_ble_eq_true rfl) (Nat.le_of_ble_eq_true rfl) u_806 rfl (rfl) ?_
          refine zi_iconst (v := 0) dX12_down_70 (by decide) ?_
          refine zg_iaload dX12_down_71 (rfl) (Nat.le_of_ble_eq_true rfl) (zvi (by decide)) ?_
          show zA G (d + 4) mX12_down 72 [some (.ref 56), some (.int x1), some (.int x2)] [.int (I6 57 0), .ref 63] (zh b I6 L) R
          have o10 := K.1
          have K := K.2
          refine zg_iaload dX12_down_72 (rfl) (Nat.le_of_ble_eq_true rfl) o10 ?_
          subst K
          exact zi_ireturn dX12_down_73 rfl rfl
        · have K := K.2 c9
          refine zi_aload_n dX12_down_55 rfl rfl ?_
          obtain ⟨r11, h12, K⟩ := K
          refine zi_callV (N := mX12_harm) (av := []) (st := []) (R1 := (some (.int r11), zh b I6 L)) dX12_down_56 okX12_harm u_1025 u_1027 s_37 zc12 (rfl) (Nat.le_of_ble_eq_true rfl) arX12_harm rfl (Nat.le_of_ble_eq_true rfl) (h12) hR ?_
          show zA G (d + 4) mX12_down 59 [some (.ref 56), some (.int x1), some (.int x2)] [.int r11] (zh b I6 L) R
          refine zi_goto (tgt := 73) dX12_down_59 (by decide) ?_
          subst K
          exact zi_ireturn dX12_down_73 rfl rfl
      · have K := K.2 c8
        refine zi_aload_n dX12_down_36 rfl rfl ?_
        refine zg_getF (k := 15) (v := .ref 65) dX12_down_37 zc12 rfl (Nat.le_of_ble_eq_true rfl) (Nat.le_of_ble_eq_true rfl) u_821 rfl (rfl) ?_
        refine zi_aload_n dX12_down_40 rfl rfl ?_
        refine zg_getF (k := 0) (v := .ref 57) dX12_down_41 zc12 rfl (Nat.le_of_ble_eq_true rfl) (Nat.le_of_ble_eq_true rfl) u_806 rfl (rfl) ?_
        refine zi_iconst (v := 0) dX12_down_44 (by decide) ?_
        refine zg_iaload dX12_down_45 (rfl) (Nat.le_of_ble_eq_true rfl) (zvi (by decide)) ?_
        show zA G (d + 4) mX12_down 46 [some (.ref 56), some (.int x1), some (.int x2)] [.int (I6 57 0), .ref 65] (zh b I6 L) R
        have o13 := K.1
        have K := K.2
        refine zg_iaload dX12_down_46 (rfl) (Nat.le_of_ble_eq_true rfl) o13 ?_
        refine zi_goto (tgt := 73) dX12_down_47 (by decide) ?_
        subst K
        exact zi_ireturn dX12_down_73 rfl rfl
    · have K := K.2 (zb_0 c5)
      refine zi_aload_n dX12_down_20 rfl rfl ?_
      refine zi_bipush (v := (-2)) dX12_down_21 (by decide) ?_
      obtain ⟨r14, I15, h16, K⟩ := K
      refine zi_callV (N := mX12_refuse) (av := [.int (-2)]) (st := []) (R1 := (some (.int r14), zh b I15 L)) dX12_down_23 okX12_refuse u_886 u_888 s_23 zc12 (rfl) (Nat.le_of_ble_eq_true rfl) arX12_refuse rfl (Nat.le_of_ble_eq_true rfl) (h16) hR ?_
      show zA G (d + 4) mX12_down 26 [some (.ref 56), some (.int x1), some (.int x2)] [.int r14] (zh b I15 L) R
      subst K
      exact zi_ireturn dX12_down_26 rfl rfl
set_option maxRecDepth 100000 in
theorem tX12_lay_0 {G : zG} {d b : Nat} {I : Nat → Nat → Int32} {L : Nat → Nat → Int64} {R : zR} {x1 : Int32} {x2 : Int32}
    (K : zA G d mX12_lay 12 [some (.ref 56), some (.int x1), some (.int x2), some (.int x2), some (.int ((I 57 0) - 1))] [] (zh b I L) R) :
    zA G d mX12_lay 0 [some (.ref 56), some (.int x1), some (.int x2), none, none] [] (zh b I L) R := by
  refine zi_iload_n dX12_lay_0 rfl rfl ?_
  refine zi_istore_n (ls' := [some (.ref 56), some (.int x1), some (.int x2), some (.int x2), none]) dX12_lay_1 rfl (by decide) rfl ?_
  refine zi_aload_n dX12_lay_2 rfl rfl ?_
  refine zg_getF (k := 0) (v := .ref 57) dX12_lay_3 zc12 rfl (Nat.le_of_ble_eq_true rfl) (Nat.le_of_ble_eq_true rfl) u_806 rfl (rfl) ?_
  refine zi_iconst (v := 0) dX12_lay_6 (by decide) ?_
  refine zg_iaload dX12_lay_7 (rfl) (Nat.le_of_ble_eq_true rfl) (zvi (by decide)) ?_
  show zA G d mX12_lay 8 [some (.ref 56), some (.int x1), some (.int x2), some (.int x2), none] [.int (I 57 0)] (zh b I L) R
  refine zi_iconst (v := 1) dX12_lay_8 (by decide) ?_
  refine zi_isub dX12_lay_9 ?_
  refine zi_istore (ls' := [some (.ref 56), some (.int x1), some (.int x2), some (.int x2), some (.int ((I 57 0) - 1))]) dX12_lay_10 (by decide) rfl ?_
  exact K
set_option maxRecDepth 100000 in
theorem tX12_lay_12 {G : zG} {d b : Nat} {I : Nat → Nat → Int32} {L : Nat → Nat → Int64} {R : zR} {x1 : Int32} {x2 : Int32} {x3 : Int32} {x4 : Int32}
    (K : ((x4 < 0 → R = (none, zh b I L)) ∧ (¬ x4 < 0 → (vp_in ((119 + (8 * x1)) + x4) 463 ∧ zA G d mX12_lay 12 [some (.ref 56), some (.int x1), some (.int x2), some (.int (x3 / 3)), some (.int (x4 + (-1)))] [] (zh b (zup I 57 (zx ((119 + (8 * x1)) + x4)) (zrem x3 3)) L) R)))) :
    zA G d mX12_lay 12 [some (.ref 56), some (.int x1), some (.int x2), some (.int x3), some (.int x4)] [] (zh b I L) R := by
  refine zi_iload dX12_lay_12 rfl ?_
  refine zi_if_lt (tgt := 45) dX12_lay_14 (by decide) (fun c1 => ?_) (fun c1 => ?_)
  · have K := K.1 c1
    subst K
    exact zi_return dX12_lay_45 rfl
  · have K := K.2 c1
    refine zi_aload_n dX12_lay_17 rfl rfl ?_
    refine zg_getF (k := 0) (v := .ref 57) dX12_lay_18 zc12 rfl (Nat.le_of_ble_eq_true rfl) (Nat.le_of_ble_eq_true rfl) u_806 rfl (rfl) ?_
    refine zi_bipush (v := 119) dX12_lay_21 (by decide) ?_
    refine zi_bipush (v := 8) dX12_lay_23 (by decide) ?_
    refine zi_iload_n dX12_lay_25 rfl rfl ?_
    refine zi_imul dX12_lay_26 ?_
    refine zi_iadd dX12_lay_27 ?_
    refine zi_iload dX12_lay_28 rfl ?_
    refine zi_iadd dX12_lay_30 ?_
    refine zi_iload_n dX12_lay_31 rfl rfl ?_
    refine zi_iconst (v := 3) dX12_lay_32 (by decide) ?_
    refine zi_irem dX12_lay_33 (by decide) ?_
    have o2 := K.1
    have K := K.2
    refine zg_iastore dX12_lay_34 (rfl) (Nat.le_of_ble_eq_true rfl) o2 ?_
    refine zi_iload_n dX12_lay_35 rfl rfl ?_
    refine zi_iconst (v := 3) dX12_lay_36 (by decide) ?_
    refine zi_idiv dX12_lay_37 (by decide) ?_
    refine zi_istore_n (ls' := [some (.ref 56), some (.int x1), some (.int x2), some (.int (x3 / 3)), some (.int x4)]) dX12_lay_38 rfl (by decide) rfl ?_
    refine zi_iinc (v := x4 + (-1)) (ls' := [some (.ref 56), some (.int x1), some (.int x2), some (.int (x3 / 3)), some (.int (x4 + (-1)))]) dX12_lay_39 rfl (by decide) rfl rfl ?_
    refine zi_goto (tgt := 12) dX12_lay_42 (by decide) ?_
    exact K
set_option maxRecDepth 100000 in
theorem tX12_best_0 {G : zG} {d b : Nat} {I : Nat → Nat → Int32} {L : Nat → Nat → Int64} {R : zR} {x1 : Int32} {x2 : Int32} {x3 : Int32} (hR : zR0 R)
    (K : ((¬ (0 ≤ x1.toInt64 ∧ x1.toInt64 ≤ (I 57 2 - 1).toInt64) → (∃ (r2 : Int32) (I3 : Nat → Nat → Int32), zCall (d + 3) mX12_refuse [.ref 56, .int (-2)] (zh b I L) (some (.int r2), zh b I3 L) ∧ R = (some (.int r2), zh b I3 L))) ∧ ((0 ≤ x1.toInt64 ∧ x1.toInt64 ≤ (I 57 2 - 1).toInt64) → ((¬ (0 ≤ x2.toInt64 ∧ x2.toInt64 ≤ 20) → (∃ (r6 : Int32) (I7 : Nat → Nat → Int32), zCall (d + 3) mX12_refuse [.ref 56, .int (-2)] (zh b I L) (some (.int r6), zh b I7 L) ∧ R = (some (.int r6), zh b I7 L))) ∧ ((0 ≤ x2.toInt64 ∧ x2.toInt64 ≤ 20) → ((x3 = (-1) → zA G (d + 4) mX12_best 49 [some (.ref 56), some (.int x1), some (.int x2), some (.int x3), some (.int 0), some (.int 1), some (.int 0), none, none] [] (zh b I L) R) ∧ (¬ x3 = (-1) → (((0 ≤ x3.toInt64 ∧ x3.toInt64 ≤ (I 57 0 - 1).toInt64) → zA G (d + 4) mX12_best 49 [some (.ref 56), some (.int x1), some (.int x2), some (.int x3), some (.int 0), some (.int 1), some (.int 0), none, none] [] (zh b I L) R) ∧ (¬ (0 ≤ x3.toInt64 ∧ x3.toInt64 ≤ (I 57 0 - 1).toInt64) → (∃ (r11 : Int32) (I12 : Nat → Nat → Int32), zCall (d + 3) mX12_refuse [.ref 56, .int (-2)] (zh b I L) (some (.int r11), zh b I12 L) ∧ R = (some (.int r11), zh b I12 L))))))))))) :
    zA G (d + 4) mX12_best 0 [some (.ref 56), some (.int x1), some (.int x2), some (.int x3), none, none, none, none, none] [] (zh b I L) R := by
  refine zi_aload_n dX12_best_0 rfl rfl ?_
  refine zi_iload_n dX12_best_1 rfl rfl ?_
  refine zi_callV (N := mX12_isRunner) (av := [.int x1]) (st := []) (R1 := (some (.int (zb (0 ≤ x1.toInt64 ∧ x1.toInt64 ≤ (I 57 2 - 1).toInt64))), zh b I L)) dX12_best_2 okX12_isRunner u_922 u_924 s_24 zc12 (rfl) (Nat.le_of_ble_eq_true rfl) arX12_isRunner rfl (Nat.le_of_ble_eq_true rfl) (kX12_isRunner _) hR ?_
  show zA G (d + 4) mX12_best 5 [some (.ref 56), some (.int x1), some (.int x2), some (.int x3), none, none, none, none, none] [.int (zb (0 ≤ x1.toInt64 ∧ x1.toInt64 ≤ (I 57 2 - 1).toInt64))] (zh b I L) R
  refine zi_if_eq (tgt := 33) dX12_best_5 (by decide) (fun c1 => ?_) (fun c1 => ?_)
  · have K := K.1 (zb_0 c1)
    refine zi_aload_n dX12_best_33 rfl rfl ?_
    refine zi_bipush (v := (-2)) dX12_best_34 (by decide) ?_
    obtain ⟨r2, I3, h4, K⟩ := K
    refine zi_callV (N := mX12_refuse) (av := [.int (-2)]) (st := []) (R1 := (some (.int r2), zh b I3 L)) dX12_best_36 okX12_refuse u_886 u_888 s_23 zc12 (rfl) (Nat.le_of_ble_eq_true rfl) arX12_refuse rfl (Nat.le_of_ble_eq_true rfl) (h4) hR ?_
    show zA G (d + 4) mX12_best 39 [some (.ref 56), some (.int x1), some (.int x2), some (.int x3), none, none, none, none, none] [.int r2] (zh b I3 L) R
    subst K
    exact zi_ireturn dX12_best_39 rfl rfl
  · have K := K.2 (zb_1 c1)
    refine zi_iload_n dX12_best_8 rfl rfl ?_
    refine zi_i2l dX12_best_9 ?_
    refine zi_lconst (v := 0) dX12_best_10 (by decide) ?_
    refine zi_ldc2 dX12_best_11 u_1033 ?_
    refine zi_callS (N := mX12_in) (av := [.long x2.toInt64, .long 0, .long 20]) (st := []) (R1 := (some (.int (zb (0 ≤ x2.toInt64 ∧ x2.toInt64 ≤ 20))), zh b I L)) dX12_best_14 okX12_in u_803 u_804 arX12_in rfl (Nat.le_of_ble_eq_true rfl) (kX12_in _ _ _) hR ?_
    show zA G (d + 4) mX12_best 17 [some (.ref 56), some (.int x1), some (.int x2), some (.int x3), none, none, none, none, none] [.int (zb (0 ≤ x2.toInt64 ∧ x2.toInt64 ≤ 20))] (zh b I L) R
    refine zi_if_eq (tgt := 33) dX12_best_17 (by decide) (fun c5 => ?_) (fun c5 => ?_)
    · have K := K.1 (zb_0 c5)
      refine zi_aload_n dX12_best_33 rfl rfl ?_
      refine zi_bipush (v := (-2)) dX12_best_34 (by decide) ?_
      obtain ⟨r6, I7, h8, K⟩ := K
      refine zi_callV (N := mX12_refuse) (av := [.int (-2)]) (st := []) (R1 := (some (.int r6), zh b I7 L)) dX12_best_36 okX12_refuse u_886 u_888 s_23 zc12 (rfl) (Nat.le_of_ble_eq_true rfl) arX12_refuse rfl (Nat.le_of_ble_eq_true rfl) (h8) hR ?_
      show zA G (d + 4) mX12_best 39 [some (.ref 56), some (.int x1), some (.int x2), some (.int x3), none, none, none, none, none] [.int r6] (zh b I7 L) R
      subst K
      exact zi_ireturn dX12_best_39 rfl rfl
    · have K := K.2 (zb_1 c5)
      refine zi_iload_n dX12_best_20 rfl rfl ?_
      refine zi_iconst (v := (-1)) dX12_best_21 (by decide) ?_
      refine zi_icmp_eq (tgt := 40) dX12_best_22 (by decide) (fun c9 => ?_) (fun c9 => ?_)
      · have K := K.1 c9
        refine zi_iconst (v := 0) dX12_best_40 (by decide) ?_
        refine zi_istore (ls' := [some (.ref 56), some (.int x1), some (.int x2), some (.int x3), some (.int 0), none, none, none, none]) dX12_best_41 (by decide) rfl ?_
        refine zi_iconst (v := 1) dX12_best_43 (by decide) ?_
        refine zi_istore (ls' := [some (.ref 56), some (.int x1), some (.int x2), some (.int x3), some (.int 0), some (.int 1), none, none, none]) dX12_best_44 (by decide) rfl ?_
        refine zi_iconst (v := 0) dX12_best_46 (by decide) ?_
        refine zi_istore (ls' := [some (.ref 56), some (.int x1), some (.int x2), some (.int x3), some (.int 0), some (.int 1), some (.int 0), none, none]) dX12_best_47 (by decide) rfl ?_
        exact K
      · have K := K.2 c9
        refine zi_aload_n dX12_best_25 rfl rfl ?_
        refine zi_iload_n dX12_best_26 rfl rfl ?_
        refine zi_callV (N := mX12_isRow) (av := [.int x3]) (st := []) (R1 := (some (.int (zb (0 ≤ x3.toInt64 ∧ x3.toInt64 ≤ (I 57 0 - 1).toInt64))), zh b I L)) dX12_best_27 okX12_isRow u_926 u_928 s_25 zc12 (rfl) (Nat.le_of_ble_eq_true rfl) arX12_isRow rfl (Nat.le_of_ble_eq_true rfl) (kX12_isRow _) hR ?_
        show zA G (d + 4) mX12_best 30 [some (.ref 56), some (.int x1), some (.int x2), some (.int x3), none, none, none, none, none] [.int (zb (0 ≤ x3.toInt64 ∧ x3.toInt64 ≤ (I 57 0 - 1).toInt64))] (zh b I L) R
        refine zi_if_ne (tgt := 40) dX12_best_30 (by decide) (fun c10 => ?_) (fun c10 => ?_)
        · have K := K.1 (zb_1 c10)
          refine zi_iconst (v := 0) dX12_best_40 (by decide) ?_
          refine zi_istore (ls' := [some (.ref 56), some (.int x1), some (.int x2), some (.int x3), some (.int 0), none, none, none, none]) dX12_best_41 (by decide) rfl ?_
          refine zi_iconst (v := 1) dX12_best_43 (by decide) ?_
          refine zi_istore (ls' := [some (.ref 56), some (.int x1), some (.int x2), some (.int x3), some (.int 0), some (.int 1), none, none, none]) dX12_best_44 (by decide) rfl ?_
          refine zi_iconst (v := 0) dX12_best_46 (by decide) ?_
          refine zi_istore (ls' := [some (.ref 56), some (.int x1), some (.int x2), some (.int x3), some (.int 0), some (.int 1), some (.int 0), none, none]) dX12_best_47 (by decide) rfl ?_
          exact K
        · have K := K.2 (zb_0 c10)
          refine zi_aload_n dX12_best_33 rfl rfl ?_
          refine zi_bipush (v := (-2)) dX12_best_34 (by decide) ?_
          obtain ⟨r11, I12, h13, K⟩ := K
          refine zi_callV (N := mX12_refuse) (av := [.int (-2)]) (st := []) (R1 := (some (.int r11), zh b I12 L)) dX12_best_36 okX12_refuse u_886 u_888 s_23 zc12 (rfl) (Nat.le_of_ble_eq_true rfl) arX12_refuse rfl (Nat.le_of_ble_eq_true rfl) (h13) hR ?_
          show zA G (d + 4) mX12_best 39 [some (.ref 56), some (.int x1), some (.int x2), some (.int x3), none, none, none, none, none] [.int r11] (zh b I12 L) R
          subst K
          exact zi_ireturn dX12_best_39 rfl rfl
set_option maxRecDepth 100000 in
theorem tX12_best_49 {G : zG} {d b : Nat} {I : Nat → Nat → Int32} {L : Nat → Nat → Int64} {R : zR} {x1 : Int32} {x2 : Int32} {x3 : Int32} {x4 : Int32} {x5 : Int32} {x6 : Int32}
    (K : (((I 57 0) ≤ x6 → zA G (d + 4) mX12_best 103 [some (.ref 56), some (.int x1), some (.int x2), some (.int x3), some (.int x4), some (.int x5), some (.int 0), some (.int (-1)), some (.int 0)] [] (zh b I L) R) ∧ (¬ (I 57 0) ≤ x6 → (vp_in ((119 + (8 * x1)) + x6) 463 ∧ zA G (d + 4) mX12_best 49 [some (.ref 56), some (.int x1), some (.int x2), some (.int x3), some (.int ((3 * x4) + (I 57 (zx ((119 + (8 * x1)) + x6))))), some (.int (x5 * 3)), some (.int (x6 + 1)), none, none] [] (zh b I L) R)))) :
    zA G (d + 4) mX12_best 49 [some (.ref 56), some (.int x1), some (.int x2), some (.int x3), some (.int x4), some (.int x5), some (.int x6), none, none] [] (zh b I L) R := by
  refine zi_iload dX12_best_49 rfl ?_
  refine zi_aload_n dX12_best_51 rfl rfl ?_
  refine zg_getF (k := 0) (v := .ref 57) dX12_best_52 zc12 rfl (Nat.le_of_ble_eq_true rfl) (Nat.le_of_ble_eq_true rfl) u_806 rfl (rfl) ?_
  refine zi_iconst (v := 0) dX12_best_55 (by decide) ?_
  refine zg_iaload dX12_best_56 (rfl) (Nat.le_of_ble_eq_true rfl) (zvi (by decide)) ?_
  show zA G (d + 4) mX12_best 57 [some (.ref 56), some (.int x1), some (.int x2), some (.int x3), some (.int x4), some (.int x5), some (.int x6), none, none] [.int (I 57 0), .int x6] (zh b I L) R
  refine zi_icmp_ge (tgt := 94) dX12_best_57 (by decide) (fun c1 => ?_) (fun c1 => ?_)
  · have K := K.1 c1
    refine zi_iconst (v := 0) dX12_best_94 (by decide) ?_
    refine zi_istore (ls' := [some (.ref 56), some (.int x1), some (.int x2), some (.int x3), some (.int x4), some (.int x5), some (.int 0), none, none]) dX12_best_95 (by decide) rfl ?_
    refine zi_iconst (v := (-1)) dX12_best_97 (by decide) ?_
    refine zi_istore (ls' := [some (.ref 56), some (.int x1), some (.int x2), some (.int x3), some (.int x4), some (.int x5), some (.int 0), some (.int (-1)), none]) dX12_best_98 (by decide) rfl ?_
    refine zi_iconst (v := 0) dX12_best_100 (by decide) ?_
    refine zi_istore (ls' := [some (.ref 56), some (.int x1), some (.int x2), some (.int x3), some (.int x4), some (.int x5), some (.int 0), some (.int (-1)), some (.int 0)]) dX12_best_101 (by decide) rfl ?_
    exact K
  · have K := K.2 c1
    refine zi_iconst (v := 3) dX12_best_60 (by decide) ?_
    refine zi_iload dX12_best_61 rfl ?_
    refine zi_imul dX12_best_63 ?_
    refine zi_aload_n dX12_best_64 rfl rfl ?_
    refine zg_getF (k := 0) (v := .ref 57) dX12_best_65 zc12 rfl (Nat.le_of_ble_eq_true rfl) (Nat.le_of_ble_eq_true rfl) u_806 rfl (rfl) ?_
    refine zi_bipush (v := 119) dX12_best_68 (by decide) ?_
    refine zi_bipush (v := 8) dX12_best_70 (by decide) ?_
    refine zi_iload_n dX12_best_72 rfl rfl ?_
    refine zi_imul dX12_best_73 ?_
    refine zi_iadd dX12_best_74 ?_
    refine zi_iload dX12_best_75 rfl ?_
    refine zi_iadd dX12_best_77 ?_
    have o2 := K.1
    have K := K.2
    refine zg_iaload dX12_best_78 (rfl) (Nat.le_of_ble_eq_true rfl) o2 ?_
    refine zi_iadd dX12_best_79 ?_
    refine zi_istore (ls' := [some (.ref 56), some (.int x1), some (.int x2), some (.int x3), some (.int ((3 * x4) + (I 57 (zx ((119 + (8 * x1)) + x6))))), some (.int x5), some (.int x6), none, none]) dX12_best_80 (by decide) rfl ?_
    refine zi_iload dX12_best_82 rfl ?_
    refine zi_iconst (v := 3) dX12_best_84 (by decide) ?_
    refine zi_imul dX12_best_85 ?_
    refine zi_istore (ls' := [some (.ref 56), some (.int x1), some (.int x2), some (.int x3), some (.int ((3 * x4) + (I 57 (zx ((119 + (8 * x1)) + x6))))), some (.int (x5 * 3)), some (.int x6), none, none]) dX12_best_86 (by decide) rfl ?_
    refine zi_iinc (v := x6 + 1) (ls' := [some (.ref 56), some (.int x1), some (.int x2), some (.int x3), some (.int ((3 * x4) + (I 57 (zx ((119 + (8 * x1)) + x6))))), some (.int (x5 * 3)), some (.int (x6 + 1)), none, none]) dX12_best_88 rfl (by decide) rfl rfl ?_
    refine zi_goto (tgt := 49) dX12_best_91 (by decide) ?_
    exact K
set_option maxRecDepth 100000 in
theorem tX12_best_103 {G : zG} {d b : Nat} {I : Nat → Nat → Int32} {L : Nat → Nat → Int64} {R : zR} {x1 : Int32} {x2 : Int32} {x3 : Int32} {x4 : Int32} {x5 : Int32} {x6 : Int32} {x7 : Int32} {x8 : Int32} (hR : zR0 R)
    (K : ((x5 ≤ x8 → (∃ (I2 : Nat → Nat → Int32), zCall (d + 3) mX12_lay [.ref 56, .int x1, .int x6] (zh b I L) (none, zh b I2 L) ∧ ((¬ x3 = (-1) → (vp_in ((119 + (8 * x1)) + x3) 463 ∧ (∃ (I6 : Nat → Nat → Int32), zCall (d + 3) mX12_lay [.ref 56, .int x1, .int x4] (zh b I2 L) (none, zh b I6 L) ∧ R = (some (.int (I2 57 (zx ((119 + (8 * x1)) + x3)))), zh b I6 L)))) ∧ (x3 = (-1) → (∃ (I8 : Nat → Nat → Int32), zCall (d + 3) mX12_lay [.ref 56, .int x1, .int x4] (zh b I2 L) (none, zh b I8 L) ∧ R = (some (.int x7), zh b I8 L)))))) ∧ (¬ x5 ≤ x8 → (∃ (I10 : Nat → Nat → Int32), zCall (d + 3) mX12_lay [.ref 56, .int x1, .int x8] (zh b I L) (none, zh b I10 L) ∧ (∃ (I12 : Nat → Nat → Int32), zCall (d + 3) mX12_walks [.ref 56, .int x1] (zh b I10 L) (none, zh b I12 L) ∧ ((x7 < 0 → (∃ (r15 : Int32), zCall (d + 3) mX12_comesTo [.ref 56, .int x2] (zh b I12 L) (some (.int r15), zh b I12 L) ∧ zA G (d + 4) mX12_best 103 [some (.ref 56), some (.int x1), some (.int x2), some (.int x3), some (.int x4), some (.int x5), some (.int x8), some (.int r15), some (.int (x8 + 1))] [] (zh b I12 L) R)) ∧ (¬ x7 < 0 → (∃ (r17 : Int32), zCall (d + 3) mX12_comesTo [.ref 56, .int x2] (zh b I12 L) (some (.int r17), zh b I12 L) ∧ ((x7 ≤ r17 → zA G (d + 4) mX12_best 103 [some (.ref 56), some (.int x1), some (.int x2), some (.int x3), some (.int x4), some (.int x5), some (.int x6), some (.int x7), some (.int (x8 + 1))] [] (zh b I12 L) R) ∧ (¬ x7 ≤ r17 → (∃ (r20 : Int32), zCall (d + 3) mX12_comesTo [.ref 56, .int x2] (zh b I12 L) (some (.int r20), zh b I12 L) ∧ zA G (d + 4) mX12_best 103 [some (.ref 56), some (.int x1), some (.int x2), some (.int x3), some (.int x4), some (.int x5), some (.int x8), some (.int r20), some (.int (x8 + 1))] [] (zh b I12 L) R))))))))))) :
    zA G (d + 4) mX12_best 103 [some (.ref 56), some (.int x1), some (.int x2), some (.int x3), some (.int x4), some (.int x5), some (.int x6), some (.int x7), some (.int x8)] [] (zh b I L) R := by
  refine zi_iload dX12_best_103 rfl ?_
  refine zi_iload dX12_best_105 rfl ?_
  refine zi_icmp_ge (tgt := 154) dX12_best_107 (by decide) (fun c1 => ?_) (fun c1 => ?_)
  · have K := K.1 c1
    refine zi_aload_n dX12_best_154 rfl rfl ?_
    refine zi_iload_n dX12_best_155 rfl rfl ?_
    refine zi_iload dX12_best_156 rfl ?_
    obtain ⟨I2, h3, K⟩ := K
    refine zi_callV (N := mX12_lay) (av := [.int x1, .int x6]) (st := []) (R1 := (none, zh b I2 L)) dX12_best_158 okX12_lay u_1034 u_1036 s_38 zc12 (rfl) (Nat.le_of_ble_eq_true rfl) arX12_lay rfl (Nat.le_of_ble_eq_true rfl) (h3) hR ?_
    show zA G (d + 4) mX12_best 161 [some (.ref 56), some (.int x1), some (.int x2), some (.int x3), some (.int x4), some (.int x5), some (.int x6), some (.int x7), some (.int x8)] [] (zh b I2 L) R
    refine zi_iload_n dX12_best_161 rfl rfl ?_
    refine zi_iconst (v := (-1)) dX12_best_162 (by decide) ?_
    refine zi_icmp_ne (tgt := 171) dX12_best_163 (by decide) (fun c4 => ?_) (fun c4 => ?_)
    · have K := K.1 c4
      refine zi_aload_n dX12_best_171 rfl rfl ?_
      refine zg_getF (k := 0) (v := .ref 57) dX12_best_172 zc12 rfl (Nat.le_of_ble_eq_true rfl) (Nat.le_of_ble_eq_true rfl) u_806 rfl (rfl) ?_
      refine zi_bipush (v := 119) dX12_best_175 (by decide) ?_
      refine zi_bipush (v := 8) dX12_best_177 (by decide) ?_
      refine zi_iload_n dX12_best_179 rfl rfl ?_
      refine zi_imul dX12_best_180 ?_
      refine zi_iadd dX12_best_181 ?_
      refine zi_iload_n dX12_best_182 rfl rfl ?_
      refine zi_iadd dX12_best_183 ?_
      have o5 := K.1
      have K := K.2
      refine zg_iaload dX12_best_184 (rfl) (Nat.le_of_ble_eq_true rfl) o5 ?_
      refine zi_istore (ls' := [some (.ref 56), some (.int x1), some (.int x2), some (.int x3), some (.int x4), some (.int x5), some (.int x6), some (.int x7), some (.int (I2 57 (zx ((119 + (8 * x1)) + x3))))]) dX12_best_185 (by decide) rfl ?_
      refine zi_aload_n dX12_best_187 rfl rfl ?_
      refine zi_iload_n dX12_best_188 rfl rfl ?_
      refine zi_iload dX12_best_189 rfl ?_
      obtain ⟨I6, h7, K⟩ := K
      refine zi_callV (N := mX12_lay) (av := [.int x1, .int x4]) (st := []) (R1 := (none, zh b I6 L)) dX12_best_191 okX12_lay u_1034 u_1036 s_38 zc12 (rfl) (Nat.le_of_ble_eq_true rfl) arX12_lay rfl (Nat.le_of_ble_eq_true rfl) (h7) hR ?_
      show zA G (d + 4) mX12_best 194 [some (.ref 56), some (.int x1), some (.int x2), some (.int x3), some (.int x4), some (.int x5), some (.int x6), some (.int x7), some (.int (I2 57 (zx ((119 + (8 * x1)) + x3))))] [] (zh b I6 L) R
      refine zi_iload dX12_best_194 rfl ?_
      subst K
      exact zi_ireturn dX12_best_196 rfl rfl
    · have K := K.2 c4
      refine zi_iload dX12_best_166 rfl ?_
      refine zi_goto (tgt := 185) dX12_best_168 (by decide) ?_
      refine zi_istore (ls' := [some (.ref 56), some (.int x1), some (.int x2), some (.int x3), some (.int x4), some (.int x5), some (.int x6), some (.int x7), some (.int x7)]) dX12_best_185 (by decide) rfl ?_
      refine zi_aload_n dX12_best_187 rfl rfl ?_
      refine zi_iload_n dX12_best_188 rfl rfl ?_
      refine zi_iload dX12_best_189 rfl ?_
      obtain ⟨I8, h9, K⟩ := K
      refine zi_callV (N := mX12_lay) (av := [.int x1, .int x4]) (st := []) (R1 := (none, zh b I8 L)) dX12_best_191 okX12_lay u_1034 u_1036 s_38 zc12 (rfl) (Nat.le_of_ble_eq_true rfl) arX12_lay rfl (Nat.le_of_ble_eq_true rfl) (h9) hR ?_
      show zA G (d + 4) mX12_best 194 [some (.ref 56), some (.int x1), some (.int x2), some (.int x3), some (.int x4), some (.int x5), some (.int x6), some (.int x7), some (.int x7)] [] (zh b I8 L) R
      refine zi_iload dX12_best_194 rfl ?_
      subst K
      exact zi_ireturn dX12_best_196 rfl rfl
  · have K := K.2 c1
    refine zi_aload_n dX12_best_110 rfl rfl ?_
    refine zi_iload_n dX12_best_111 rfl rfl ?_
    refine zi_iload dX12_best_112 rfl ?_
    obtain ⟨I10, h11, K⟩ := K
    refine zi_callV (N := mX12_lay) (av := [.int x1, .int x8]) (st := []) (R1 := (none, zh b I10 L)) dX12_best_114 okX12_lay u_1034 u_1036 s_38 zc12 (rfl) (Nat.le_of_ble_eq_true rfl) arX12_lay rfl (Nat.le_of_ble_eq_true rfl) (h11) hR ?_
    show zA G (d + 4) mX12_best 117 [some (.ref 56), some (.int x1), some (.int x2), some (.int x3), some (.int x4), some (.int x5), some (.int x6), some (.int x7), some (.int x8)] [] (zh b I10 L) R
    refine zi_aload_n dX12_best_117 rfl rfl ?_
    refine zi_iload_n dX12_best_118 rfl rfl ?_
    obtain ⟨I12, h13, K⟩ := K
    refine zi_callV (N := mX12_walks) (av := [.int x1]) (st := []) (R1 := (none, zh b I12 L)) dX12_best_119 okX12_walks u_1000 u_1002 s_34 zc12 (rfl) (Nat.le_of_ble_eq_true rfl) arX12_walks rfl (Nat.le_of_ble_eq_true rfl) (h13) hR ?_
    show zA G (d + 4) mX12_best 122 [some (.ref 56), some (.int x1), some (.int x2), some (.int x3), some (.int x4), some (.int x5), some (.int x6), some (.int x7), some (.int x8)] [] (zh b I12 L) R
    refine zi_iload dX12_best_122 rfl ?_
    refine zi_if_lt (tgt := 137) dX12_best_124 (by decide) (fun c14 => ?_) (fun c14 => ?_)
    · have K := K.1 c14
      refine zi_iload dX12_best_137 rfl ?_
      refine zi_istore (ls' := [some (.ref 56), some (.int x1), some (.int x2), some (.int x3), some (.int x4), some (.int x5), some (.int x8), some (.int x7), some (.int x8)]) dX12_best_139 (by decide) rfl ?_
      refine zi_aload_n dX12_best_141 rfl rfl ?_
      refine zi_iload_n dX12_best_142 rfl rfl ?_
      obtain ⟨r15, h16, K⟩ := K
      refine zi_callV (N := mX12_comesTo) (av := [.int x2]) (st := []) (R1 := (some (.int r15), zh b I12 L)) dX12_best_143 okX12_comesTo u_1038 u_1040 s_39 zc12 (rfl) (Nat.le_of_ble_eq_true rfl) arX12_comesTo rfl (Nat.le_of_ble_eq_true rfl) (h16) hR ?_
      show zA G (d + 4) mX12_best 146 [some (.ref 56), some (.int x1), some (.int x2), some (.int x3), some (.int x4), some (.int x5), some (.int x8), some (.int x7), some (.int x8)] [.int r15] (zh b I12 L) R
      refine zi_istore (ls' := [some (.ref 56), some (.int x1), some (.int x2), some (.int x3), some (.int x4), some (.int x5), some (.int x8), some (.int r15), some (.int x8)]) dX12_best_146 (by decide) rfl ?_
      refine zi_iinc (v := x8 + 1) (ls' := [some (.ref 56), some (.int x1), some (.int x2), some (.int x3), some (.int x4), some (.int x5), some (.int x8), some (.int r15), some (.int (x8 + 1))]) dX12_best_148 rfl (by decide) rfl rfl ?_
      refine zi_goto (tgt := 103) dX12_best_151 (by decide) ?_
      exact K
    · have K := K.2 c14
      refine zi_aload_n dX12_best_127 rfl rfl ?_
      refine zi_iload_n dX12_best_128 rfl rfl ?_
      obtain ⟨r17, h18, K⟩ := K
      refine zi_callV (N := mX12_comesTo) (av := [.int x2]) (st := []) (R1 := (some (.int r17), zh b I12 L)) dX12_best_129 okX12_comesTo u_1038 u_1040 s_39 zc12 (rfl) (Nat.le_of_ble_eq_true rfl) arX12_comesTo rfl (Nat.le_of_ble_eq_true rfl) (h18) hR ?_
      show zA G (d + 4) mX12_best 132 [some (.ref 56), some (.int x1), some (.int x2), some (.int x3), some (.int x4), some (.int x5), some (.int x6), some (.int x7), some (.int x8)] [.int r17] (zh b I12 L) R
      refine zi_iload dX12_best_132 rfl ?_
      refine zi_icmp_ge (tgt := 148) dX12_best_134 (by decide) (fun c19 => ?_) (fun c19 => ?_)
      · have K := K.1 c19
        refine zi_iinc (v := x8 + 1) (ls' := [some (.ref 56), some (.int x1), some (.int x2), some (.int x3), some (.int x4), some (.int x5), some (.int x6), some (.int x7), some (.int (x8 + 1))]) dX12_best_148 rfl (by decide) rfl rfl ?_
        refine zi_goto (tgt := 103) dX12_best_151 (by decide) ?_
        exact K
      · have K := K.2 c19
        refine zi_iload dX12_best_137 rfl ?_
        refine zi_istore (ls' := [some (.ref 56), some (.int x1), some (.int x2), some (.int x3), some (.int x4), some (.int x5), some (.int x8), some (.int x7), some (.int x8)]) dX12_best_139 (by decide) rfl ?_
        refine zi_aload_n dX12_best_141 rfl rfl ?_
        refine zi_iload_n dX12_best_142 rfl rfl ?_
        obtain ⟨r20, h21, K⟩ := K
        refine zi_callV (N := mX12_comesTo) (av := [.int x2]) (st := []) (R1 := (some (.int r20), zh b I12 L)) dX12_best_143 okX12_comesTo u_1038 u_1040 s_39 zc12 (rfl) (Nat.le_of_ble_eq_true rfl) arX12_comesTo rfl (Nat.le_of_ble_eq_true rfl) (h21) hR ?_
        show zA G (d + 4) mX12_best 146 [some (.ref 56), some (.int x1), some (.int x2), some (.int x3), some (.int x4), some (.int x5), some (.int x8), some (.int x7), some (.int x8)] [.int r20] (zh b I12 L) R
        refine zi_istore (ls' := [some (.ref 56), some (.int x1), some (.int x2), some (.int x3), some (.int x4), some (.int x5), some (.int x8), some (.int r20), some (.int x8)]) dX12_best_146 (by decide) rfl ?_
        refine zi_iinc (v := x8 + 1) (ls' := [some (.ref 56), some (.int x1), some (.int x2), some (.int x3), some (.int x4), some (.int x5), some (.int x8), some (.int r20), some (.int (x8 + 1))]) dX12_best_148 rfl (by decide) rfl rfl ?_
        refine zi_goto (tgt := 103) dX12_best_151 (by decide) ?_
        exact K
set_option maxRecDepth 100000 in
theorem tX12_fall_0 {G : zG} {d b : Nat} {I : Nat → Nat → Int32} {L : Nat → Nat → Int64} {R : zR} {x1 : Int32} {x2 : Int32} (hR : zR0 R)
    (K : ((¬ (0 ≤ x1.toInt64 ∧ x1.toInt64 ≤ (I 57 2 - 1).toInt64) → (∃ (r2 : Int32) (I3 : Nat → Nat → Int32), zCall (d + 3) mX12_refuse [.ref 56, .int (-2)] (zh b I L) (some (.int r2), zh b I3 L) ∧ R = (some (.int r2), zh b I3 L))) ∧ ((0 ≤ x1.toInt64 ∧ x1.toInt64 ≤ (I 57 2 - 1).toInt64) → (((0 ≤ x2.toInt64 ∧ x2.toInt64 ≤ 20) → (∃ (I6 : Nat → Nat → Int32), zCall (d + 3) mX12_walks [.ref 56, .int x1] (zh b I L) (none, zh b I6 L) ∧ (∃ (r8 : Int32), zCall (d + 3) mX12_comesTo [.ref 56, .int x2] (zh b I6 L) (some (.int r8), zh b I6 L) ∧ zA G (d + 4) mX12_fall 44 [some (.ref 56), some (.int x1), some (.int x2), some (.int r8), some (.int (-1)), some (.int 0)] [] (zh b I6 L) R))) ∧ (¬ (0 ≤ x2.toInt64 ∧ x2.toInt64 ≤ 20) → (∃ (r10 : Int32) (I11 : Nat → Nat → Int32), zCall (d + 3) mX12_refuse [.ref 56, .int (-2)] (zh b I L) (some (.int r10), zh b I11 L) ∧ R = (some (.int r10), zh b I11 L))))))) :
    zA G (d + 4) mX12_fall 0 [some (.ref 56), some (.int x1), some (.int x2), none, none, none] [] (zh b I L) R := by
  refine zi_aload_n dX12_fall_0 rfl rfl ?_
  refine zi_iload_n dX12_fall_1 rfl rfl ?_
  refine zi_callV (N := mX12_isRunner) (av := [.int x1]) (st := []) (R1 := (some (.int (zb (0 ≤ x1.toInt64 ∧ x1.toInt64 ≤ (I 57 2 - 1).toInt64))), zh b I L)) dX12_fall_2 okX12_isRunner u_922 u_924 s_24 zc12 (rfl) (Nat.le_of_ble_eq_true rfl) arX12_isRunner rfl (Nat.le_of_ble_eq_true rfl) (kX12_isRunner _) hR ?_
  show zA G (d + 4) mX12_fall 5 [some (.ref 56), some (.int x1), some (.int x2), none, none, none] [.int (zb (0 ≤ x1.toInt64 ∧ x1.toInt64 ≤ (I 57 2 - 1).toInt64))] (zh b I L) R
  refine zi_if_eq (tgt := 20) dX12_fall_5 (by decide) (fun c1 => ?_) (fun c1 => ?_)
  · have K := K.1 (zb_0 c1)
    refine zi_aload_n dX12_fall_20 rfl rfl ?_
    refine zi_bipush (v := (-2)) dX12_fall_21 (by decide) ?_
    obtain ⟨r2, I3, h4, K⟩ := K
    refine zi_callV (N := mX12_refuse) (av := [.int (-2)]) (st := []) (R1 := (some (.int r2), zh b I3 L)) dX12_fall_23 okX12_refuse u_886 u_888 s_23 zc12 (rfl) (Nat.le_of_ble_eq_true rfl) arX12_refuse rfl (Nat.le_of_ble_eq_true rfl) (h4) hR ?_
    show zA G (d + 4) mX12_fall 26 [some (.ref 56), some (.int x1), some (.int x2), none, none, none] [.int r2] (zh b I3 L) R
    subst K
    exact zi_ireturn dX12_fall_26 rfl rfl
  · have K := K.2 (zb_1 c1)
    refine zi_iload_n dX12_fall_8 rfl rfl ?_
    refine zi_i2l dX12_fall_9 ?_
    refine zi_lconst (v := 0) dX12_fall_10 (by decide) ?_
    refine zi_ldc2 dX12_fall_11 u_1033 ?_
    refine zi_callS (N := mX12_in) (av := [.long x2.toInt64, .long 0, .long 20]) (st := []) (R1 := (some (.int (zb (0 ≤ x2.toInt64 ∧ x2.toInt64 ≤ 20))), zh b I L)) dX12_fall_14 okX12_in u_803 u_804 arX12_in rfl (Nat.le_of_ble_eq_true rfl) (kX12_in _ _ _) hR ?_
    show zA G (d + 4) mX12_fall 17 [some (.ref 56), some (.int x1), some (.int x2), none, none, none] [.int (zb (0 ≤ x2.toInt64 ∧ x2.toInt64 ≤ 20))] (zh b I L) R
    refine zi_if_ne (tgt := 27) dX12_fall_17 (by decide) (fun c5 => ?_) (fun c5 => ?_)
    · have K := K.1 (zb_1 c5)
      refine zi_aload_n dX12_fall_27 rfl rfl ?_
      refine zi_iload_n dX12_fall_28 rfl rfl ?_
      obtain ⟨I6, h7, K⟩ := K
      refine zi_callV (N := mX12_walks) (av := [.int x1]) (st := []) (R1 := (none, zh b I6 L)) dX12_fall_29 okX12_walks u_1000 u_1002 s_34 zc12 (rfl) (Nat.le_of_ble_eq_true rfl) arX12_walks rfl (Nat.le_of_ble_eq_true rfl) (h7) hR ?_
      show zA G (d + 4) mX12_fall 32 [some (.ref 56), some (.int x1), some (.int x2), none, none, none] [] (zh b I6 L) R
      refine zi_aload_n dX12_fall_32 rfl rfl ?_
      refine zi_iload_n dX12_fall_33 rfl rfl ?_
      obtain ⟨r8, h9, K⟩ := K
      refine zi_callV (N := mX12_comesTo) (av := [.int x2]) (st := []) (R1 := (some (.int r8), zh b I6 L)) dX12_fall_34 okX12_comesTo u_1038 u_1040 s_39 zc12 (rfl) (Nat.le_of_ble_eq_true rfl) arX12_comesTo rfl (Nat.le_of_ble_eq_true rfl) (h9) hR ?_
      show zA G (d + 4) mX12_fall 37 [some (.ref 56), some (.int x1), some (.int x2), none, none, none] [.int r8] (zh b I6 L) R
      refine zi_istore_n (ls' := [some (.ref 56), some (.int x1), some (.int x2), some (.int r8), none, none]) dX12_fall_37 rfl (by decide) rfl ?_
      refine zi_iconst (v := (-1)) dX12_fall_38 (by decide) ?_
      refine zi_istore (ls' := [some (.ref 56), some (.int x1), some (.int x2), some (.int r8), some (.int (-1)), none]) dX12_fall_39 (by decide) rfl ?_
      refine zi_iconst (v := 0) dX12_fall_41 (by decide) ?_
      refine zi_istore (ls' := [some (.ref 56), some (.int x1), some (.int x2), some (.int r8), some (.int (-1)), some (.int 0)]) dX12_fall_42 (by decide) rfl ?_
      exact K
    · have K := K.2 (zb_0 c5)
      refine zi_aload_n dX12_fall_20 rfl rfl ?_
      refine zi_bipush (v := (-2)) dX12_fall_21 (by decide) ?_
      obtain ⟨r10, I11, h12, K⟩ := K
      refine zi_callV (N := mX12_refuse) (av := [.int (-2)]) (st := []) (R1 := (some (.int r10), zh b I11 L)) dX12_fall_23 okX12_refuse u_886 u_888 s_23 zc12 (rfl) (Nat.le_of_ble_eq_true rfl) arX12_refuse rfl (Nat.le_of_ble_eq_true rfl) (h12) hR ?_
      show zA G (d + 4) mX12_fall 26 [some (.ref 56), some (.int x1), some (.int x2), none, none, none] [.int r10] (zh b I11 L) R
      subst K
      exact zi_ireturn dX12_fall_26 rfl rfl
set_option maxRecDepth 100000 in
theorem tX12_fall_44 {G : zG} {d b : Nat} {I : Nat → Nat → Int32} {L : Nat → Nat → Int64} {R : zR} {x1 : Int32} {x2 : Int32} {x3 : Int32} {x4 : Int32} {x5 : Int32} (hR : zR0 R)
    (K : (((I 57 0) ≤ x5 → R = (some (.int x4), zh b I L)) ∧ (¬ (I 57 0) ≤ x5 → (∃ (I2 : Nat → Nat → Int32), zCall (d + 3) mX12_walk [.ref 56, .int x1, .int x5] (zh b I L) (none, zh b I2 L) ∧ (∃ (r4 : Int32), zCall (d + 3) mX12_comesTo [.ref 56, .int x2] (zh b I2 L) (some (.int r4), zh b I2 L) ∧ ((x3 ≤ r4 → zA G (d + 4) mX12_fall 44 [some (.ref 56), some (.int x1), some (.int x2), some (.int x3), some (.int x4), some (.int (x5 + 1))] [] (zh b I2 L) R) ∧ (¬ x3 ≤ r4 → (∃ (r7 : Int32), zCall (d + 3) mX12_comesTo [.ref 56, .int x2] (zh b I2 L) (some (.int r7), zh b I2 L) ∧ zA G (d + 4) mX12_fall 44 [some (.ref 56), some (.int x1), some (.int x2), some (.int r7), some (.int x5), some (.int (x5 + 1))] [] (zh b I2 L) R)))))))) :
    zA G (d + 4) mX12_fall 44 [some (.ref 56), some (.int x1), some (.int x2), some (.int x3), some (.int x4), some (.int x5)] [] (zh b I L) R := by
  refine zi_iload dX12_fall_44 rfl ?_
  refine zi_aload_n dX12_fall_46 rfl rfl ?_
  refine zg_getF (k := 0) (v := .ref 57) dX12_fall_47 zc12 rfl (Nat.le_of_ble_eq_true rfl) (Nat.le_of_ble_eq_true rfl) u_806 rfl (rfl) ?_
  refine zi_iconst (v := 0) dX12_fall_50 (by decide) ?_
  refine zg_iaload dX12_fall_51 (rfl) (Nat.le_of_ble_eq_true rfl) (zvi (by decide)) ?_
  show zA G (d + 4) mX12_fall 52 [some (.ref 56), some (.int x1), some (.int x2), some (.int x3), some (.int x4), some (.int x5)] [.int (I 57 0), .int x5] (zh b I L) R
  refine zi_icmp_ge (tgt := 87) dX12_fall_52 (by decide) (fun c1 => ?_) (fun c1 => ?_)
  · have K := K.1 c1
    refine zi_iload dX12_fall_87 rfl ?_
    subst K
    exact zi_ireturn dX12_fall_89 rfl rfl
  · have K := K.2 c1
    refine zi_aload_n dX12_fall_55 rfl rfl ?_
    refine zi_iload_n dX12_fall_56 rfl rfl ?_
    refine zi_iload dX12_fall_57 rfl ?_
    obtain ⟨I2, h3, K⟩ := K
    refine zi_callV (N := mX12_walk) (av := [.int x1, .int x5]) (st := []) (R1 := (none, zh b I2 L)) dX12_fall_59 okX12_walk u_1004 u_1006 s_35 zc12 (rfl) (Nat.le_of_ble_eq_true rfl) arX12_walk rfl (Nat.le_of_ble_eq_true rfl) (h3) hR ?_
    show zA G (d + 4) mX12_fall 62 [some (.ref 56), some (.int x1), some (.int x2), some (.int x3), some (.int x4), some (.int x5)] [] (zh b I2 L) R
    refine zi_aload_n dX12_fall_62 rfl rfl ?_
    refine zi_iload_n dX12_fall_63 rfl rfl ?_
    obtain ⟨r4, h5, K⟩ := K
    refine zi_callV (N := mX12_comesTo) (av := [.int x2]) (st := []) (R1 := (some (.int r4), zh b I2 L)) dX12_fall_64 okX12_comesTo u_1038 u_1040 s_39 zc12 (rfl) (Nat.le_of_ble_eq_true rfl) arX12_comesTo rfl (Nat.le_of_ble_eq_true rfl) (h5) hR ?_
    show zA G (d + 4) mX12_fall 67 [some (.ref 56), some (.int x1), some (.int x2), some (.int x3), some (.int x4), some (.int x5)] [.int r4] (zh b I2 L) R
    refine zi_iload_n dX12_fall_67 rfl rfl ?_
    refine zi_icmp_ge (tgt := 81) dX12_fall_68 (by decide) (fun c6 => ?_) (fun c6 => ?_)
    · have K := K.1 c6
      refine zi_iinc (v := x5 + 1) (ls' := [some (.ref 56), some (.int x1), some (.int x2), some (.int x3), some (.int x4), some (.int (x5 + 1))]) dX12_fall_81 rfl (by decide) rfl rfl ?_
      refine zi_goto (tgt := 44) dX12_fall_84 (by decide) ?_
      exact K
    · have K := K.2 c6
      refine zi_iload dX12_fall_71 rfl ?_
      refine zi_istore (ls' := [some (.ref 56), some (.int x1), some (.int x2), some (.int x3), some (.int x5), some (.int x5)]) dX12_fall_73 (by decide) rfl ?_
      refine zi_aload_n dX12_fall_75 rfl rfl ?_
      refine zi_iload_n dX12_fall_76 rfl rfl ?_
      obtain ⟨r7, h8, K⟩ := K
      refine zi_callV (N := mX12_comesTo) (av := [.int x2]) (st := []) (R1 := (some (.int r7), zh b I2 L)) dX12_fall_77 okX12_comesTo u_1038 u_1040 s_39 zc12 (rfl) (Nat.le_of_ble_eq_true rfl) arX12_comesTo rfl (Nat.le_of_ble_eq_true rfl) (h8) hR ?_
      show zA G (d + 4) mX12_fall 80 [some (.ref 56), some (.int x1), some (.int x2), some (.int x3), some (.int x5), some (.int x5)] [.int r7] (zh b I2 L) R
      refine zi_istore_n (ls' := [some (.ref 56), some (.int x1), some (.int x2), some (.int r7), some (.int x5), some (.int x5)]) dX12_fall_80 rfl (by decide) rfl ?_
      refine zi_iinc (v := x5 + 1) (ls' := [some (.ref 56), some (.int x1), some (.int x2), some (.int r7), some (.int x5), some (.int (x5 + 1))]) dX12_fall_81 rfl (by decide) rfl rfl ?_
      refine zi_goto (tgt := 44) dX12_fall_84 (by decide) ?_
      exact K
set_option maxRecDepth 100000 in
theorem tX12_downOf_0 {G : zG} {d b : Nat} {I : Nat → Nat → Int32} {L : Nat → Nat → Int64} {R : zR} {x1 : Int32} (hR : zR0 R)
    (K : (∃ (I1 : Nat → Nat → Int32), zCall (d + 3) mX12_walks [.ref 56, .int x1] (zh b I L) (none, zh b I1 L) ∧ (vp_in (I1 57 0) 9 ∧ R = (some (.int (I1 65 (zx (I1 57 0)))), zh b I1 L)))) :
    zA G (d + 4) mX12_downOf 0 [some (.ref 56), some (.int x1)] [] (zh b I L) R := by
  refine zi_aload_n dX12_downOf_0 rfl rfl ?_
  refine zi_iload_n dX12_downOf_1 rfl rfl ?_
  obtain ⟨I1, h2, K⟩ := K
  refine zi_callV (N := mX12_walks) (av := [.int x1]) (st := []) (R1 := (none, zh b I1 L)) dX12_downOf_2 okX12_walks u_1000 u_1002 s_34 zc12 (rfl) (Nat.le_of_ble_eq_true rfl) arX12_walks rfl (Nat.le_of_ble_eq_true rfl) (h2) hR ?_
  show zA G (d + 4) mX12_downOf 5 [some (.ref 56), some (.int x1)] [] (zh b I1 L) R
  refine zi_aload_n dX12_downOf_5 rfl rfl ?_
  refine zg_getF (k := 15) (v := .ref 65) dX12_downOf_6 zc12 rfl (Nat.le_of_ble_eq_true rfl) (Nat.le_of_ble_eq_true rfl) u_821 rfl (rfl) ?_
  refine zi_aload_n dX12_downOf_9 rfl rfl ?_
  refine zg_getF (k := 0) (v := .ref 57) dX12_downOf_10 zc12 rfl (Nat.le_of_ble_eq_true rfl) (Nat.le_of_ble_eq_true rfl) u_806 rfl (rfl) ?_
  refine zi_iconst (v := 0) dX12_downOf_13 (by decide) ?_
  refine zg_iaload dX12_downOf_14 (rfl) (Nat.le_of_ble_eq_true rfl) (zvi (by decide)) ?_
  show zA G (d + 4) mX12_downOf 15 [some (.ref 56), some (.int x1)] [.int (I1 57 0), .ref 65] (zh b I1 L) R
  have o3 := K.1
  have K := K.2
  refine zg_iaload dX12_downOf_15 (rfl) (Nat.le_of_ble_eq_true rfl) o3 ?_
  subst K
  exact zi_ireturn dX12_downOf_16 rfl rfl
set_option maxRecDepth 100000 in
theorem tX12_placeOf_0 {G : zG} {d b : Nat} {I : Nat → Nat → Int32} {L : Nat → Nat → Int64} {R : zR} {x1 : Int32} (hR : zR0 R)
    (K : (∃ (r1 : Int32) (I2 : Nat → Nat → Int32), zCall (d + 4) mX12_downOf [.ref 56, .int x1] (zh b I L) (some (.int r1), zh b I2 L) ∧ zA G (d + 5) mX12_placeOf 11 [some (.ref 56), some (.int x1), some (.int r1), some (.int 0), some (.int 0)] [] (zh b I2 L) R)) :
    zA G (d + 5) mX12_placeOf 0 [some (.ref 56), some (.int x1), none, none, none] [] (zh b I L) R := by
  refine zi_aload_n dX12_placeOf_0 rfl rfl ?_
  refine zi_iload_n dX12_placeOf_1 rfl rfl ?_
  obtain ⟨r1, I2, h3, K⟩ := K
  refine zi_callV (N := mX12_downOf) (av := [.int x1]) (st := []) (R1 := (some (.int r1), zh b I2 L)) dX12_placeOf_2 okX12_downOf u_1054 u_1056 s_41 zc12 (rfl) (Nat.le_of_ble_eq_true rfl) arX12_downOf rfl (Nat.le_of_ble_eq_true rfl) (h3) hR ?_
  show zA G (d + 5) mX12_placeOf 5 [some (.ref 56), some (.int x1), none, none, none] [.int r1] (zh b I2 L) R
  refine zi_istore_n (ls' := [some (.ref 56), some (.int x1), some (.int r1), none, none]) dX12_placeOf_5 rfl (by decide) rfl ?_
  refine zi_iconst (v := 0) dX12_placeOf_6 (by decide) ?_
  refine zi_istore_n (ls' := [some (.ref 56), some (.int x1), some (.int r1), some (.int 0), none]) dX12_placeOf_7 rfl (by decide) rfl ?_
  refine zi_iconst (v := 0) dX12_placeOf_8 (by decide) ?_
  refine zi_istore (ls' := [some (.ref 56), some (.int x1), some (.int r1), some (.int 0), some (.int 0)]) dX12_placeOf_9 (by decide) rfl ?_
  exact K
set_option maxRecDepth 100000 in
theorem tX12_placeOf_11 {G : zG} {d b : Nat} {I : Nat → Nat → Int32} {L : Nat → Nat → Int64} {R : zR} {x1 : Int32} {x2 : Int32} {x3 : Int32} {x4 : Int32} (hR : zR0 R)
    (K : (((I 57 2) ≤ x4 → R = (some (.int x3), zh b I L)) ∧ (¬ (I 57 2) ≤ x4 → (∃ (r2 : Int32) (I3 : Nat → Nat → Int32), zCall (d + 4) mX12_downOf [.ref 56, .int x4] (zh b I L) (some (.int r2), zh b I3 L) ∧ ((r2 < x2 → zA G (d + 5) mX12_placeOf 11 [some (.ref 56), some (.int x1), some (.int x2), some (.int (x3 + 1)), some (.int (x4 + 1))] [] (zh b I3 L) R) ∧ (¬ r2 < x2 → (∃ (r6 : Int32) (I7 : Nat → Nat → Int32), zCall (d + 4) mX12_downOf [.ref 56, .int x4] (zh b I3 L) (some (.int r6), zh b I7 L) ∧ ((¬ r6 = x2 → zA G (d + 5) mX12_placeOf 11 [some (.ref 56), some (.int x1), some (.int x2), some (.int (x3 + 0)), some (.int (x4 + 1))] [] (zh b I7 L) R) ∧ (r6 = x2 → ((x1 ≤ x4 → zA G (d + 5) mX12_placeOf 11 [some (.ref 56), some (.int x1), some (.int x2), some (.int (x3 + 0)), some (.int (x4 + 1))] [] (zh b I7 L) R) ∧ (¬ x1 ≤ x4 → zA G (d + 5) mX12_placeOf 11 [some (.ref 56), some (.int x1), some (.int x2), some (.int (x3 + 1)), some (.int (x4 + 1))] [] (zh b I7 L) R))))))))))) :
    zA G (d + 5) mX12_placeOf 11 [some (.ref 56), some (.int x1), some (.int x2), some (.int x3), some (.int x4)] [] (zh b I L) R := by
  refine zi_iload dX12_placeOf_11 rfl ?_
  refine zi_aload_n dX12_placeOf_13 rfl rfl ?_
  refine zg_getF (k := 0) (v := .ref 57) dX12_placeOf_14 zc12 rfl (Nat.le_of_ble_eq_true rfl) (Nat.le_of_ble_eq_true rfl) u_806 rfl (rfl) ?_
  refine zi_iconst (v := 2) dX12_placeOf_17 (by decide) ?_
  refine zg_iaload dX12_placeOf_18 (rfl) (Nat.le_of_ble_eq_true rfl) (zvi (by decide)) ?_
  show zA G (d + 5) mX12_placeOf 19 [some (.ref 56), some (.int x1), some (.int x2), some (.int x3), some (.int x4)] [.int (I 57 2), .int x4] (zh b I L) R
  refine zi_icmp_ge (tgt := 62) dX12_placeOf_19 (by decide) (fun c1 => ?_) (fun c1 => ?_)
  · have K := K.1 c1
    refine zi_iload_n dX12_placeOf_62 rfl rfl ?_
    subst K
    exact zi_ireturn dX12_placeOf_63 rfl rfl
  · have K := K.2 c1
    refine zi_iload_n dX12_placeOf_22 rfl rfl ?_
    refine zi_aload_n dX12_placeOf_23 rfl rfl ?_
    refine zi_iload dX12_placeOf_24 rfl ?_
    obtain ⟨r2, I3, h4, K⟩ := K
    refine zi_callV (N := mX12_downOf) (av := [.int x4]) (st := [.int x3]) (R1 := (some (.int r2), zh b I3 L)) dX12_placeOf_26 okX12_downOf u_1054 u_1056 s_41 zc12 (rfl) (Nat.le_of_ble_eq_true rfl) arX12_downOf rfl (Nat.le_of_ble_eq_true rfl) (h4) hR ?_
    show zA G (d + 5) mX12_placeOf 29 [some (.ref 56), some (.int x1), some (.int x2), some (.int x3), some (.int x4)] [.int r2, .int x3] (zh b I3 L) R
    refine zi_iload_n dX12_placeOf_29 rfl rfl ?_
    refine zi_icmp_lt (tgt := 49) dX12_placeOf_30 (by decide) (fun c5 => ?_) (fun c5 => ?_)
    · have K := K.1 c5
      refine zi_iconst (v := 1) dX12_placeOf_49 (by decide) ?_
      refine zi_goto (tgt := 54) dX12_placeOf_50 (by decide) ?_
      refine zi_iadd dX12_placeOf_54 ?_
      refine zi_istore_n (ls' := [some (.ref 56), some (.int x1), some (.int x2), some (.int (x3 + 1)), some (.int x4)]) dX12_placeOf_55 rfl (by decide) rfl ?_
      refine zi_iinc (v := x4 + 1) (ls' := [some (.ref 56), some (.int x1), some (.int x2), some (.int (x3 + 1)), some (.int (x4 + 1))]) dX12_placeOf_56 rfl (by decide) rfl rfl ?_
      refine zi_goto (tgt := 11) dX12_placeOf_59 (by decide) ?_
      exact K
    · have K := K.2 c5
      refine zi_aload_n dX12_placeOf_33 rfl rfl ?_
      refine zi_iload dX12_placeOf_34 rfl ?_
      obtain ⟨r6, I7, h8, K⟩ := K
      refine zi_callV (N := mX12_downOf) (av := [.int x4]) (st := [.int x3]) (R1 := (some (.int r6), zh b I7 L)) dX12_placeOf_36 okX12_downOf u_1054 u_1056 s_41 zc12 (rfl) (Nat.le_of_ble_eq_true rfl) arX12_downOf rfl (Nat.le_of_ble_eq_true rfl) (h8) hR ?_
      show zA G (d + 5) mX12_placeOf 39 [some (.ref 56), some (.int x1), some (.int x2), some (.int x3), some (.int x4)] [.int r6, .int x3] (zh b I7 L) R
      refine zi_iload_n dX12_placeOf_39 rfl rfl ?_
      refine zi_icmp_ne (tgt := 53) dX12_placeOf_40 (by decide) (fun c9 => ?_) (fun c9 => ?_)
      · have K := K.1 c9
        refine zi_iconst (v := 0) dX12_placeOf_53 (by decide) ?_
        refine zi_iadd dX12_placeOf_54 ?_
        refine zi_istore_n (ls' := [some (.ref 56), some (.int x1), some (.int x2), some (.int (x3 + 0)), some (.int x4)]) dX12_placeOf_55 rfl (by decide) rfl ?_
        refine zi_iinc (v := x4 + 1) (ls' := [some (.ref 56), some (.int x1), some (.int x2), some (.int (x3 + 0)), some (.int (x4 + 1))]) dX12_placeOf_56 rfl (by decide) rfl rfl ?_
        refine zi_goto (tgt := 11) dX12_placeOf_59 (by decide) ?_
        exact K
      · have K := K.2 c9
        refine zi_iload dX12_placeOf_43 rfl ?_
        refine zi_iload_n dX12_placeOf_45 rfl rfl ?_
        refine zi_icmp_ge (tgt := 53) dX12_placeOf_46 (by decide) (fun c10 => ?_) (fun c10 => ?_)
        · have K := K.1 c10
          refine zi_iconst (v := 0) dX12_placeOf_53 (by decide) ?_
          refine zi_iadd dX12_placeOf_54 ?_
          refine zi_istore_n (ls' := [some (.ref 56), some (.int x1), some (.int x2), some (.int (x3 + 0)), some (.int x4)]) dX12_placeOf_55 rfl (by decide) rfl ?_
          refine zi_iinc (v := x4 + 1) (ls' := [some (.ref 56), some (.int x1), some (.int x2), some (.int (x3 + 0)), some (.int (x4 + 1))]) dX12_placeOf_56 rfl (by decide) rfl rfl ?_
          refine zi_goto (tgt := 11) dX12_placeOf_59 (by decide) ?_
          exact K
        · have K := K.2 c10
          refine zi_iconst (v := 1) dX12_placeOf_49 (by decide) ?_
          refine zi_goto (tgt := 54) dX12_placeOf_50 (by decide) ?_
          refine zi_iadd dX12_placeOf_54 ?_
          refine zi_istore_n (ls' := [some (.ref 56), some (.int x1), some (.int x2), some (.int (x3 + 1)), some (.int x4)]) dX12_placeOf_55 rfl (by decide) rfl ?_
          refine zi_iinc (v := x4 + 1) (ls' := [some (.ref 56), some (.int x1), some (.int x2), some (.int (x3 + 1)), some (.int (x4 + 1))]) dX12_placeOf_56 rfl (by decide) rfl rfl ?_
          refine zi_goto (tgt := 11) dX12_placeOf_59 (by decide) ?_
          exact K
set_option maxRecDepth 100000 in
theorem tX12_place_0 {G : zG} {d b : Nat} {I : Nat → Nat → Int32} {L : Nat → Nat → Int64} {R : zR} {x1 : Int32} (hR : zR0 R)
    (K : ((0 ≤ x1 → zA G (d + 6) mX12_place 15 [some (.ref 56), some (.int x1), some (.int (-1)), some (.int 0)] [] (zh b I L) R) ∧ (¬ 0 ≤ x1 → (∃ (r2 : Int32) (I3 : Nat → Nat → Int32), zCall (d + 5) mX12_refuse [.ref 56, .int (-2)] (zh b I L) (some (.int r2), zh b I3 L) ∧ R = (some (.int r2), zh b I3 L))))) :
    zA G (d + 6) mX12_place 0 [some (.ref 56), some (.int x1), none, none] [] (zh b I L) R := by
  refine zi_iload_n dX12_place_0 rfl rfl ?_
  refine zi_if_ge (tgt := 11) dX12_place_1 (by decide) (fun c1 => ?_) (fun c1 => ?_)
  · have K := K.1 c1
    refine zi_iconst (v := (-1)) dX12_place_11 (by decide) ?_
    refine zi_istore_n (ls' := [some (.ref 56), some (.int x1), some (.int (-1)), none]) dX12_place_12 rfl (by decide) rfl ?_
    refine zi_iconst (v := 0) dX12_place_13 (by decide) ?_
    refine zi_istore_n (ls' := [some (.ref 56), some (.int x1), some (.int (-1)), some (.int 0)]) dX12_place_14 rfl (by decide) rfl ?_
    exact K
  · have K := K.2 c1
    refine zi_aload_n dX12_place_4 rfl rfl ?_
    refine zi_bipush (v := (-2)) dX12_place_5 (by decide) ?_
    obtain ⟨r2, I3, h4, K⟩ := K
    refine zi_callV (N := mX12_refuse) (av := [.int (-2)]) (st := []) (R1 := (some (.int r2), zh b I3 L)) dX12_place_7 okX12_refuse u_886 u_888 s_23 zc12 (rfl) (Nat.le_of_ble_eq_true rfl) arX12_refuse rfl (Nat.le_of_ble_eq_true rfl) (h4) hR ?_
    show zA G (d + 6) mX12_place 10 [some (.ref 56), some (.int x1), none, none] [.int r2] (zh b I3 L) R
    subst K
    exact zi_ireturn dX12_place_10 rfl rfl
set_option maxRecDepth 100000 in
theorem tX12_place_15 {G : zG} {d b : Nat} {I : Nat → Nat → Int32} {L : Nat → Nat → Int64} {R : zR} {x1 : Int32} {x2 : Int32} {x3 : Int32} (hR : zR0 R)
    (K : (((I 57 2) ≤ x3 → R = (some (.int x2), zh b I L)) ∧ (¬ (I 57 2) ≤ x3 → (∃ (r2 : Int32) (I3 : Nat → Nat → Int32), zCall (d + 5) mX12_placeOf [.ref 56, .int x3] (zh b I L) (some (.int r2), zh b I3 L) ∧ ((¬ r2 = x1 → zA G (d + 6) mX12_place 15 [some (.ref 56), some (.int x1), some (.int x2), some (.int (x3 + 1))] [] (zh b I3 L) R) ∧ (r2 = x1 → zA G (d + 6) mX12_place 15 [some (.ref 56), some (.int x1), some (.int x3), some (.int (x3 + 1))] [] (zh b I3 L) R)))))) :
    zA G (d + 6) mX12_place 15 [some (.ref 56), some (.int x1), some (.int x2), some (.int x3)] [] (zh b I L) R := by
  refine zi_iload_n dX12_place_15 rfl rfl ?_
  refine zi_aload_n dX12_place_16 rfl rfl ?_
  refine zg_getF (k := 0) (v := .ref 57) dX12_place_17 zc12 rfl (Nat.le_of_ble_eq_true rfl) (Nat.le_of_ble_eq_true rfl) u_806 rfl (rfl) ?_
  refine zi_iconst (v := 2) dX12_place_20 (by decide) ?_
  refine zg_iaload dX12_place_21 (rfl) (Nat.le_of_ble_eq_true rfl) (zvi (by decide)) ?_
  show zA G (d + 6) mX12_place 22 [some (.ref 56), some (.int x1), some (.int x2), some (.int x3)] [.int (I 57 2), .int x3] (zh b I L) R
  refine zi_icmp_ge (tgt := 46) dX12_place_22 (by decide) (fun c1 => ?_) (fun c1 => ?_)
  · have K := K.1 c1
    refine zi_iload_n dX12_place_46 rfl rfl ?_
    subst K
    exact zi_ireturn dX12_place_47 rfl rfl
  · have K := K.2 c1
    refine zi_aload_n dX12_place_25 rfl rfl ?_
    refine zi_iload_n dX12_place_26 rfl rfl ?_
    obtain ⟨r2, I3, h4, K⟩ := K
    refine zi_callV (N := mX12_placeOf) (av := [.int x3]) (st := []) (R1 := (some (.int r2), zh b I3 L)) dX12_place_27 okX12_placeOf u_1050 u_1052 s_40 zc12 (rfl) (Nat.le_of_ble_eq_true rfl) arX12_placeOf rfl (Nat.le_of_ble_eq_true rfl) (h4) hR ?_
    show zA G (d + 6) mX12_place 30 [some (.ref 56), some (.int x1), some (.int x2), some (.int x3)] [.int r2] (zh b I3 L) R
    refine zi_iload_n dX12_place_30 rfl rfl ?_
    refine zi_icmp_ne (tgt := 38) dX12_place_31 (by decide) (fun c5 => ?_) (fun c5 => ?_)
    · have K := K.1 c5
      refine zi_iload_n dX12_place_38 rfl rfl ?_
      refine zi_istore_n (ls' := [some (.ref 56), some (.int x1), some (.int x2), some (.int x3)]) dX12_place_39 rfl (by decide) rfl ?_
      refine zi_iinc (v := x3 + 1) (ls' := [some (.ref 56), some (.int x1), some (.int x2), some (.int (x3 + 1))]) dX12_place_40 rfl (by decide) rfl rfl ?_
      refine zi_goto (tgt := 15) dX12_place_43 (by decide) ?_
      exact K
    · have K := K.2 c5
      refine zi_iload_n dX12_place_34 rfl rfl ?_
      refine zi_goto (tgt := 39) dX12_place_35 (by decide) ?_
      refine zi_istore_n (ls' := [some (.ref 56), some (.int x1), some (.int x3), some (.int x3)]) dX12_place_39 rfl (by decide) rfl ?_
      refine zi_iinc (v := x3 + 1) (ls' := [some (.ref 56), some (.int x1), some (.int x3), some (.int (x3 + 1))]) dX12_place_40 rfl (by decide) rfl rfl ?_
      refine zi_goto (tgt := 15) dX12_place_43 (by decide) ?_
      exact K
set_option maxRecDepth 100000 in
theorem tX12_meet_0 {G : zG} {d b : Nat} {I : Nat → Nat → Int32} {L : Nat → Nat → Int64} {R : zR} {x1 : Int32} {x2 : Int32} (hR : zR0 R)
    (K : (∃ (I1 : Nat → Nat → Int32), zCall (d + 3) mX12_walks [.ref 56, .int x1] (zh b I L) (none, zh b I1 L) ∧ zA G (d + 4) mX12_meet 7 [some (.ref 56), some (.int x1), some (.int x2), some (.int 0), none] [] (zh b I1 L) R)) :
    zA G (d + 4) mX12_meet 0 [some (.ref 56), some (.int x1), some (.int x2), none, none] [] (zh b I L) R := by
  refine zi_aload_n dX12_meet_0 rfl rfl ?_
  refine zi_iload_n dX12_meet_1 rfl rfl ?_
  obtain ⟨I1, h2, K⟩ := K
  refine zi_callV (N := mX12_walks) (av := [.int x1]) (st := []) (R1 := (none, zh b I1 L)) dX12_meet_2 okX12_walks u_1000 u_1002 s_34 zc12 (rfl) (Nat.le_of_ble_eq_true rfl) arX12_walks rfl (Nat.le_of_ble_eq_true rfl) (h2) hR ?_
  show zA G (d + 4) mX12_meet 5 [some (.ref 56), some (.int x1), some (.int x2), none, none] [] (zh b I1 L) R
  refine zi_iconst (v := 0) dX12_meet_5 (by decide) ?_
  refine zi_istore_n (ls' := [some (.ref 56), some (.int x1), some (.int x2), some (.int 0), none]) dX12_meet_6 rfl (by decide) rfl ?_
  exact K
set_option maxRecDepth 100000 in
theorem tX12_meet_7 {G : zG} {d b : Nat} {I : Nat → Nat → Int32} {L : Nat → Nat → Int64} {R : zR} {x1 : Int32} {x2 : Int32} {x3 : Int32} (hR : zR0 R)
    (K : (((I 57 0) < x3 → (∃ (I2 : Nat → Nat → Int32), zCall (d + 3) mX12_walks [.ref 56, .int x2] (zh b I L) (none, zh b I2 L) ∧ zA G (d + 4) mX12_meet 57 [some (.ref 56), some (.int x1), some (.int x2), some (.int 0), some (.int 0)] [] (zh b I2 L) R)) ∧ (¬ (I 57 0) < x3 → (vp_in x3 9 ∧ (vp_in x3 9 ∧ (vp_in x3 9 ∧ (vp_in x3 9 ∧ (∀ I8 : Nat → Nat → Int32, I8 = (zup I 67 (zx x3) (I 63 (zx x3))) → zA G (d + 4) mX12_meet 7 [some (.ref 56), some (.int x1), some (.int x2), some (.int (x3 + 1)), none] [] (zh b (zup I8 68 (zx x3) ((zup I 67 (zx x3) (I 63 (zx x3))) 65 (zx x3))) L) R)))))))) :
    zA G (d + 4) mX12_meet 7 [some (.ref 56), some (.int x1), some (.int x2), some (.int x3), none] [] (zh b I L) R := by
  refine zi_iload_n dX12_meet_7 rfl rfl ?_
  refine zi_aload_n dX12_meet_8 rfl rfl ?_
  refine zg_getF (k := 0) (v := .ref 57) dX12_meet_9 zc12 rfl (Nat.le_of_ble_eq_true rfl) (Nat.le_of_ble_eq_true rfl) u_806 rfl (rfl) ?_
  refine zi_iconst (v := 0) dX12_meet_12 (by decide) ?_
  refine zg_iaload dX12_meet_13 (rfl) (Nat.le_of_ble_eq_true rfl) (zvi (by decide)) ?_
  show zA G (d + 4) mX12_meet 14 [some (.ref 56), some (.int x1), some (.int x2), some (.int x3), none] [.int (I 57 0), .int x3] (zh b I L) R
  refine zi_icmp_gt (tgt := 47) dX12_meet_14 (by decide) (fun c1 => ?_) (fun c1 => ?_)
  · have K := K.1 c1
    refine zi_aload_n dX12_meet_47 rfl rfl ?_
    refine zi_iload_n dX12_meet_48 rfl rfl ?_
    obtain ⟨I2, h3, K⟩ := K
    refine zi_callV (N := mX12_walks) (av := [.int x2]) (st := []) (R1 := (none, zh b I2 L)) dX12_meet_49 okX12_walks u_1000 u_1002 s_34 zc12 (rfl) (Nat.le_of_ble_eq_true rfl) arX12_walks rfl (Nat.le_of_ble_eq_true rfl) (h3) hR ?_
    show zA G (d + 4) mX12_meet 52 [some (.ref 56), some (.int x1), some (.int x2), some (.int x3), none] [] (zh b I2 L) R
    refine zi_iconst (v := 0) dX12_meet_52 (by decide) ?_
    refine zi_istore_n (ls' := [some (.ref 56), some (.int x1), some (.int x2), some (.int 0), none]) dX12_meet_53 rfl (by decide) rfl ?_
    refine zi_iconst (v := 0) dX12_meet_54 (by decide) ?_
    refine zi_istore (ls' := [some (.ref 56), some (.int x1), some (.int x2), some (.int 0), some (.int 0)]) dX12_meet_55 (by decide) rfl ?_
    exact K
  · have K := K.2 c1
    refine zi_aload_n dX12_meet_17 rfl rfl ?_
    refine zg_getF (k := 17) (v := .ref 67) dX12_meet_18 zc12 rfl (Nat.le_of_ble_eq_true rfl) (Nat.le_of_ble_eq_true rfl) u_823 rfl (rfl) ?_
    refine zi_iload_n dX12_meet_21 rfl rfl ?_
    refine zi_aload_n dX12_meet_22 rfl rfl ?_
    refine zg_getF (k := 13) (v := .ref 63) dX12_meet_23 zc12 rfl (Nat.le_of_ble_eq_true rfl) (Nat.le_of_ble_eq_true rfl) u_819 rfl (rfl) ?_
    refine zi_iload_n dX12_meet_26 rfl rfl ?_
    have o4 := K.1
    have K := K.2
    refine zg_iaload dX12_meet_27 (rfl) (Nat.le_of_ble_eq_true rfl) o4 ?_
    have o5 := K.1
    have K := K.2
    refine zg_iastore dX12_meet_28 (rfl) (Nat.le_of_ble_eq_true rfl) o5 ?_
    refine zi_aload_n dX12_meet_29 rfl rfl ?_
    refine zg_getF (k := 18) (v := .ref 68) dX12_meet_30 zc12 rfl (Nat.le_of_ble_eq_true rfl) (Nat.le_of_ble_eq_true rfl) u_824 rfl (rfl) ?_
    refine zi_iload_n dX12_meet_33 rfl rfl ?_
    refine zi_aload_n dX12_meet_34 rfl rfl ?_
    refine zg_getF (k := 15) (v := .ref 65) dX12_meet_35 zc12 rfl (Nat.le_of_ble_eq_true rfl) (Nat.le_of_ble_eq_true rfl) u_821 rfl (rfl) ?_
    refine zi_iload_n dX12_meet_38 rfl rfl ?_
    have o6 := K.1
    have K := K.2
    refine zg_iaload dX12_meet_39 (rfl) (Nat.le_of_ble_eq_true rfl) o6 ?_
    have o7 := K.1
    have K := K.2
    refine zi_name (fun I8 hI8 => ?_)
    have K := K I8 hI8
    refine zg_iastore dX12_meet_40 (rfl) (Nat.le_of_ble_eq_true rfl) o7 ?_
    refine zi_iinc (v := x3 + 1) (ls' := [some (.ref 56), some (.int x1), some (.int x2), some (.int (x3 + 1)), none]) dX12_meet_41 rfl (by decide) rfl rfl ?_
    refine zi_goto (tgt := 7) dX12_meet_44 (by decide) ?_
    exact K
set_option maxRecDepth 100000 in
theorem tX12_meet_57 {G : zG} {d b : Nat} {I : Nat → Nat → Int32} {L : Nat → Nat → Int64} {R : zR} {x1 : Int32} {x2 : Int32} {x3 : Int32} {x4 : Int32}
    (K : (((I 57 0) ≤ x4 → (narrow .boolean (.int x3) = .int x3 ∧ R = (some (.int x3), zh b I L))) ∧ (¬ (I 57 0) ≤ x4 → ((¬ x3 = 0 → zA G (d + 4) mX12_meet 57 [some (.ref 56), some (.int x1), some (.int x2), some (.int 1), some (.int (x4 + 1))] [] (zh b I L) R) ∧ (x3 = 0 → (vp_in x4 9 ∧ (vp_in x4 9 ∧ ((¬ (I 63 (zx x4)) = (I 67 (zx x4)) → zA G (d + 4) mX12_meet 57 [some (.ref 56), some (.int x1), some (.int x2), some (.int 0), some (.int (x4 + 1))] [] (zh b I L) R) ∧ ((I 63 (zx x4)) = (I 67 (zx x4)) → (vp_in x4 9 ∧ (vp_in (x4 + 1) 9 ∧ (((I 68 (zx (x4 + 1))) ≤ (I 65 (zx x4)) → zA G (d + 4) mX12_meet 57 [some (.ref 56), some (.int x1), some (.int x2), some (.int 0), some (.int (x4 + 1))] [] (zh b I L) R) ∧ (¬ (I 68 (zx (x4 + 1))) ≤ (I 65 (zx x4)) → (vp_in x4 9 ∧ (vp_in (x4 + 1) 9 ∧ (((I 65 (zx (x4 + 1))) ≤ (I 68 (zx x4)) → zA G (d + 4) mX12_meet 57 [some (.ref 56), some (.int x1), some (.int x2), some (.int 0), some (.int (x4 + 1))] [] (zh b I L) R) ∧ (¬ (I 65 (zx (x4 + 1))) ≤ (I 68 (zx x4)) → zA G (d + 4) mX12_meet 57 [some (.ref 56), some (.int x1), some (.int x2), some (.int 1), some (.int (x4 + 1))] [] (zh b I L) R))))))))))))))))) :
    zA G (d + 4) mX12_meet 57 [some (.ref 56), some (.int x1), some (.int x2), some (.int x3), some (.int x4)] [] (zh b I L) R := by
  refine zi_iload dX12_meet_57 rfl ?_
  refine zi_aload_n dX12_meet_59 rfl rfl ?_
  refine zg_getF (k := 0) (v := .ref 57) dX12_meet_60 zc12 rfl (Nat.le_of_ble_eq_true rfl) (Nat.le_of_ble_eq_true rfl) u_806 rfl (rfl) ?_
  refine zi_iconst (v := 0) dX12_meet_63 (by decide) ?_
  refine zg_iaload dX12_meet_64 (rfl) (Nat.le_of_ble_eq_true rfl) (zvi (by decide)) ?_
  show zA G (d + 4) mX12_meet 65 [some (.ref 56), some (.int x1), some (.int x2), some (.int x3), some (.int x4)] [.int (I 57 0), .int x4] (zh b I L) R
  refine zi_icmp_ge (tgt := 139) dX12_meet_65 (by decide) (fun c1 => ?_) (fun c1 => ?_)
  · have K := K.1 c1
    refine zi_iload_n dX12_meet_139 rfl rfl ?_
    have o2 := K.1
    have K := K.2
    subst K
    exact zi_ireturn dX12_meet_140 rfl o2
  · have K := K.2 c1
    refine zi_iload_n dX12_meet_68 rfl rfl ?_
    refine zi_if_ne (tgt := 127) dX12_meet_69 (by decide) (fun c3 => ?_) (fun c3 => ?_)
    · have K := K.1 c3
      refine zi_iconst (v := 1) dX12_meet_127 (by decide) ?_
      refine zi_goto (tgt := 132) dX12_meet_128 (by decide) ?_
      refine zi_istore_n (ls' := [some (.ref 56), some (.int x1), some (.int x2), some (.int 1), some (.int x4)]) dX12_meet_132 rfl (by decide) rfl ?_
      refine zi_iinc (v := x4 + 1) (ls' := [some (.ref 56), some (.int x1), some (.int x2), some (.int 1), some (.int (x4 + 1))]) dX12_meet_133 rfl (by decide) rfl rfl ?_
      refine zi_goto (tgt := 57) dX12_meet_136 (by decide) ?_
      exact K
    · have K := K.2 c3
      refine zi_aload_n dX12_meet_72 rfl rfl ?_
      refine zg_getF (k := 13) (v := .ref 63) dX12_meet_73 zc12 rfl (Nat.le_of_ble_eq_true rfl) (Nat.le_of_ble_eq_true rfl) u_819 rfl (rfl) ?_
      refine zi_iload dX12_meet_76 rfl ?_
      have o4 := K.1
      have K := K.2
      refine zg_iaload dX12_meet_78 (rfl) (Nat.le_of_ble_eq_true rfl) o4 ?_
      refine zi_aload_n dX12_meet_79 rfl rfl ?_
      refine zg_getF (k := 17) (v := .ref 67) dX12_meet_80 zc12 rfl (Nat.le_of_ble_eq_true rfl) (Nat.le_of_ble_eq_true rfl) u_823 rfl (rfl) ?_
      refine zi_iload dX12_meet_83 rfl ?_
      have o5 := K.1
      have K := K.2
      refine zg_iaload dX12_meet_85 (rfl) (Nat.le_of_ble_eq_true rfl) o5 ?_
      refine zi_icmp_ne (tgt := 131) dX12_meet_86 (by decide) (fun c6 => ?_) (fun c6 => ?_)
      · have K := K.1 c6
        refine zi_iconst (v := 0) dX12_meet_131 (by decide) ?_
        refine zi_istore_n (ls' := [some (.ref 56), some (.int x1), some (.int x2), some (.int 0), some (.int x4)]) dX12_meet_132 rfl (by decide) rfl ?_
        refine zi_iinc (v := x4 + 1) (ls' := [some (.ref 56), some (.int x1), some (.int x2), some (.int 0), some (.int (x4 + 1))]) dX12_meet_133 rfl (by decide) rfl rfl ?_
        refine zi_goto (tgt := 57) dX12_meet_136 (by decide) ?_
        exact K
      · have K := K.2 c6
        refine zi_aload_n dX12_meet_89 rfl rfl ?_
        refine zg_getF (k := 15) (v := .ref 65) dX12_meet_90 zc12 rfl (Nat.le_of_ble_eq_true rfl) (Nat.le_of_ble_eq_true rfl) u_821 rfl (rfl) ?_
        refine zi_iload dX12_meet_93 rfl ?_
        have o7 := K.1
        have K := K.2
        refine zg_iaload dX12_meet_95 (rfl) (Nat.le_of_ble_eq_true rfl) o7 ?_
        refine zi_aload_n dX12_meet_96 rfl rfl ?_
        refine zg_getF (k := 18) (v := .ref 68) dX12_meet_97 zc12 rfl (Nat.le_of_ble_eq_true rfl) (Nat.le_of_ble_eq_true rfl) u_824 rfl (rfl) ?_
        refine zi_iload dX12_meet_100 rfl ?_
        refine zi_iconst (v := 1) dX12_meet_102 (by decide) ?_
        refine zi_iadd dX12_meet_103 ?_
        have o8 := K.1
        have K := K.2
        refine zg_iaload dX12_meet_104 (rfl) (Nat.le_of_ble_eq_true rfl) o8 ?_
        refine zi_icmp_ge (tgt := 131) dX12_meet_105 (by decide) (fun c9 => ?_) (fun c9 => ?_)
        · have K := K.1 c9
          refine zi_iconst (v := 0) dX12_meet_131 (by decide) ?_
          refine zi_istore_n (ls' := [some (.ref 56), some (.int x1), some (.int x2), some (.int 0), some (.int x4)]) dX12_meet_132 rfl (by decide) rfl ?_
          refine zi_iinc (v := x4 + 1) (ls' := [some (.ref 56), some (.int x1), some (.int x2), some (.int 0), some (.int (x4 + 1))]) dX12_meet_133 rfl (by decide) rfl rfl ?_
          refine zi_goto (tgt := 57) dX12_meet_136 (by decide) ?_
          exact K
        · have K := K.2 c9
          refine zi_aload_n dX12_meet_108 rfl rfl ?_
          refine zg_getF (k := 18) (v := .ref 68) dX12_meet_109 zc12 rfl (Nat.le_of_ble_eq_true rfl) (Nat.le_of_ble_eq_true rfl) u_824 rfl (rfl) ?_
          refine zi_iload dX12_meet_112 rfl ?_
          have o10 := K.1
          have K := K.2
          refine zg_iaload dX12_meet_114 (rfl) (Nat.le_of_ble_eq_true rfl) o10 ?_
          refine zi_aload_n dX12_meet_115 rfl rfl ?_
          refine zg_getF (k := 15) (v := .ref 65) dX12_meet_116 zc12 rfl (Nat.le_of_ble_eq_true rfl) (Nat.le_of_ble_eq_true rfl) u_821 rfl (rfl) ?_
          refine zi_iload dX12_meet_119 rfl ?_
          refine zi_iconst (v := 1) dX12_meet_121 (by decide) ?_
          refine zi_iadd dX12_meet_122 ?_
          have o11 := K.1
          have K := K.2
          refine zg_iaload dX12_meet_123 (rfl) (Nat.le_of_ble_eq_true rfl) o11 ?_
          refine zi_icmp_ge (tgt := 131) dX12_meet_124 (by decide) (fun c12 => ?_) (fun c12 => ?_)
          · have K := K.1 c12
            refine zi_iconst (v := 0) dX12_meet_131 (by decide) ?_
            refine zi_istore_n (ls' := [some (.ref 56), some (.int x1), some (.int x2), some (.int 0), some (.int x4)]) dX12_meet_132 rfl (by decide) rfl ?_
            refine zi_iinc (v := x4 + 1) (ls' := [some (.ref 56), some (.int x1), some (.int x2), some (.int 0), some (.int (x4 + 1))]) dX12_meet_133 rfl (by decide) rfl rfl ?_
            refine zi_goto (tgt := 57) dX12_meet_136 (by decide) ?_
            exact K
          · have K := K.2 c12
            refine zi_iconst (v := 1) dX12_meet_127 (by decide) ?_
            refine zi_goto (tgt := 132) dX12_meet_128 (by decide) ?_
            refine zi_istore_n (ls' := [some (.ref 56), some (.int x1), some (.int x2), some (.int 1), some (.int x4)]) dX12_meet_132 rfl (by decide) rfl ?_
            refine zi_iinc (v := x4 + 1) (ls' := [some (.ref 56), some (.int x1), some (.int x2), some (.int 1), some (.int (x4 + 1))]) dX12_meet_133 rfl (by decide) rfl rfl ?_
            refine zi_goto (tgt := 57) dX12_meet_136 (by decide) ?_
            exact K
set_option maxRecDepth 100000 in
theorem tX12_meets_0 {G : zG} {d b : Nat} {I : Nat → Nat → Int32} {L : Nat → Nat → Int64} {R : zR} 
    (K : zA G (d + 5) mX12_meets 4 [some (.ref 56), some (.int 0), some (.int 0), none] [] (zh b I L) R) :
    zA G (d + 5) mX12_meets 0 [some (.ref 56), none, none, none] [] (zh b I L) R := by
  refine zi_iconst (v := 0) dX12_meets_0 (by decide) ?_
  refine zi_istore_n (ls' := [some (.ref 56), some (.int 0), none, none]) dX12_meets_1 rfl (by decide) rfl ?_
  refine zi_iconst (v := 0) dX12_meets_2 (by decide) ?_
  refine zi_istore_n (ls' := [some (.ref 56), some (.int 0), some (.int 0), none]) dX12_meets_3 rfl (by decide) rfl ?_
  exact K
set_option maxRecDepth 100000 in
theorem tX12_meets_4 {G : zG} {d b : Nat} {I : Nat → Nat → Int32} {L : Nat → Nat → Int64} {R : zR} {x1 : Int32} {x2 : Int32}
    (K : (((I 57 2) ≤ x2 → R = (some (.int x1), zh b I L)) ∧ (¬ (I 57 2) ≤ x2 → zA G (d + 5) mX12_meets 16 [some (.ref 56), some (.int x1), some (.int x2), some (.int 0)] [] (zh b I L) R))) :
    zA G (d + 5) mX12_meets 4 [some (.ref 56), some (.int x1), some (.int x2), none] [] (zh b I L) R := by
  refine zi_iload_n dX12_meets_4 rfl rfl ?_
  refine zi_aload_n dX12_meets_5 rfl rfl ?_
  refine zg_getF (k := 0) (v := .ref 57) dX12_meets_6 zc12 rfl (Nat.le_of_ble_eq_true rfl) (Nat.le_of_ble_eq_true rfl) u_806 rfl (rfl) ?_
  refine zi_iconst (v := 2) dX12_meets_9 (by decide) ?_
  refine zg_iaload dX12_meets_10 (rfl) (Nat.le_of_ble_eq_true rfl) (zvi (by decide)) ?_
  show zA G (d + 5) mX12_meets 11 [some (.ref 56), some (.int x1), some (.int x2), none] [.int (I 57 2), .int x2] (zh b I L) R
  refine zi_icmp_ge (tgt := 50) dX12_meets_11 (by decide) (fun c1 => ?_) (fun c1 => ?_)
  · have K := K.1 c1
    refine zi_iload_n dX12_meets_50 rfl rfl ?_
    subst K
    exact zi_ireturn dX12_meets_51 rfl rfl
  · have K := K.2 c1
    refine zi_iconst (v := 0) dX12_meets_14 (by decide) ?_
    refine zi_istore_n (ls' := [some (.ref 56), some (.int x1), some (.int x2), some (.int 0)]) dX12_meets_15 rfl (by decide) rfl ?_
    exact K
set_option maxRecDepth 100000 in
theorem tX12_meets_16 {G : zG} {d b : Nat} {I : Nat → Nat → Int32} {L : Nat → Nat → Int64} {R : zR} {x1 : Int32} {x2 : Int32} {x3 : Int32} (hR : zR0 R)
    (K : ((x2 ≤ x3 → zA G (d + 5) mX12_meets 4 [some (.ref 56), some (.int x1), some (.int (x2 + 1)), none] [] (zh b I L) R) ∧ (¬ x2 ≤ x3 → (∃ (r2 : Bool) (I3 : Nat → Nat → Int32), zCall (d + 4) mX12_meet [.ref 56, .int x2, .int x3] (zh b I L) (some (.int (zB r2)), zh b I3 L) ∧ ((r2 = false → zA G (d + 5) mX12_meets 16 [some (.ref 56), some (.int (x1 + 0)), some (.int x2), some (.int (x3 + 1))] [] (zh b I3 L) R) ∧ (r2 = true → zA G (d + 5) mX12_meets 16 [some (.ref 56), some (.int (x1 + 1)), some (.int x2), some (.int (x3 + 1))] [] (zh b I3 L) R)))))) :
    zA G (d + 5) mX12_meets 16 [some (.ref 56), some (.int x1), some (.int x2), some (.int x3)] [] (zh b I L) R := by
  refine zi_iload_n dX12_meets_16 rfl rfl ?_
  refine zi_iload_n dX12_meets_17 rfl rfl ?_
  refine zi_icmp_ge (tgt := 44) dX12_meets_18 (by decide) (fun c1 => ?_) (fun c1 => ?_)
  · have K := K.1 c1
    refine zi_iinc (v := x2 + 1) (ls' := [some (.ref 56), some (.int x1), some (.int (x2 + 1)), some (.int x3)]) dX12_meets_44 rfl (by decide) rfl rfl ?_
    refine zi_goto (tgt := 4) dX12_meets_47 (by decide) ?_
    refine zi_mask [true, true, true, false] rfl ?_
    exact K
  · have K := K.2 c1
    refine zi_iload_n dX12_meets_21 rfl rfl ?_
    refine zi_aload_n dX12_meets_22 rfl rfl ?_
    refine zi_iload_n dX12_meets_23 rfl rfl ?_
    refine zi_iload_n dX12_meets_24 rfl rfl ?_
    obtain ⟨r2, I3, h4, K⟩ := K
    refine zi_callV (N := mX12_meet) (av := [.int x2, .int x3]) (st := [.int x1]) (R1 := (some (.int (zB r2)), zh b I3 L)) dX12_meets_25 okX12_meet u_1066 u_1068 s_43 zc12 (rfl) (Nat.le_of_ble_eq_true rfl) arX12_meet rfl (Nat.le_of_ble_eq_true rfl) (h4) hR ?_
    show zA G (d + 5) mX12_meets 28 [some (.ref 56), some (.int x1), some (.int x2), some (.int x3)] [.int (zB r2), .int x1] (zh b I3 L) R
    refine zi_if_eq (tgt := 35) dX12_meets_28 (by decide) (fun c5 => ?_) (fun c5 => ?_)
    · have K := K.1 (zB_0 c5)
      refine zi_iconst (v := 0) dX12_meets_35 (by decide) ?_
      refine zi_iadd dX12_meets_36 ?_
      refine zi_istore_n (ls' := [some (.ref 56), some (.int (x1 + 0)), some (.int x2), some (.int x3)]) dX12_meets_37 rfl (by decide) rfl ?_
      refine zi_iinc (v := x3 + 1) (ls' := [some (.ref 56), some (.int (x1 + 0)), some (.int x2), some (.int (x3 + 1))]) dX12_meets_38 rfl (by decide) rfl rfl ?_
      refine zi_goto (tgt := 16) dX12_meets_41 (by decide) ?_
      exact K
    · have K := K.2 (zB_1 c5)
      refine zi_iconst (v := 1) dX12_meets_31 (by decide) ?_
      refine zi_goto (tgt := 36) dX12_meets_32 (by decide) ?_
      refine zi_iadd dX12_meets_36 ?_
      refine zi_istore_n (ls' := [some (.ref 56), some (.int (x1 + 1)), some (.int x2), some (.int x3)]) dX12_meets_37 rfl (by decide) rfl ?_
      refine zi_iinc (v := x3 + 1) (ls' := [some (.ref 56), some (.int (x1 + 1)), some (.int x2), some (.int (x3 + 1))]) dX12_meets_38 rfl (by decide) rfl rfl ?_
      refine zi_goto (tgt := 16) dX12_meets_41 (by decide) ?_
      exact K
set_option maxRecDepth 100000 in
theorem tX12_clashes_0 {G : zG} {d b : Nat} {I : Nat → Nat → Int32} {L : Nat → Nat → Int64} {R : zR}  (hR : zR0 R)
    (K : (∃ (r1 : Int32) (I2 : Nat → Nat → Int32), zCall (d + 5) mX12_meets [.ref 56] (zh b I L) (some (.int r1), zh b I2 L) ∧ R = (some (.int r1), zh b I2 L))) :
    zA G (d + 6) mX12_clashes 0 [some (.ref 56)] [] (zh b I L) R := by
  refine zi_aload_n dX12_clashes_0 rfl rfl ?_
  obtain ⟨r1, I2, h3, K⟩ := K
  refine zi_callV (N := mX12_meets) (av := []) (st := []) (R1 := (some (.int r1), zh b I2 L)) dX12_clashes_1 okX12_meets u_1062 u_1064 s_42 zc12 (rfl) (Nat.le_of_ble_eq_true rfl) arX12_meets rfl (Nat.le_of_ble_eq_true rfl) (h3) hR ?_
  show zA G (d + 6) mX12_clashes 4 [some (.ref 56)] [.int r1] (zh b I2 L) R
  subst K
  exact zi_ireturn dX12_clashes_4 rfl rfl
set_option maxRecDepth 100000 in
theorem tX12_apart_0 {G : zG} {d b : Nat} {I : Nat → Nat → Int32} {L : Nat → Nat → Int64} {R : zR} 
    (K : zA G (d + 6) mX12_apart 2 [some (.ref 56), some (.int 0), none, none] [] (zh b I L) R) :
    zA G (d + 6) mX12_apart 0 [some (.ref 56), none, none, none] [] (zh b I L) R := by
  refine zi_iconst (v := 0) dX12_apart_0 (by decide) ?_
  refine zi_istore_n (ls' := [some (.ref 56), some (.int 0), none, none]) dX12_apart_1 rfl (by decide) rfl ?_
  exact K
set_option maxRecDepth 100000 in
theorem tX12_apart_2 {G : zG} {d b : Nat} {I : Nat → Nat → Int32} {L : Nat → Nat → Int64} {R : zR} {x1 : Int32}
    (K : (((I 57 2) ≤ x1 → zA G (d + 6) mX12_apart 37 [some (.ref 56), some (.int (-1)), some (.int 0), none] [] (zh b I L) R) ∧ (¬ (I 57 2) ≤ x1 → (vp_in (113 + x1) 463 ∧ (vp_in x1 6 ∧ zA G (d + 6) mX12_apart 2 [some (.ref 56), some (.int (x1 + 1)), none, none] [] (zh b (zup I 69 (zx x1) (I 57 (zx (113 + x1)))) L) R))))) :
    zA G (d + 6) mX12_apart 2 [some (.ref 56), some (.int x1), none, none] [] (zh b I L) R := by
  refine zi_iload_n dX12_apart_2 rfl rfl ?_
  refine zi_aload_n dX12_apart_3 rfl rfl ?_
  refine zg_getF (k := 0) (v := .ref 57) dX12_apart_4 zc12 rfl (Nat.le_of_ble_eq_true rfl) (Nat.le_of_ble_eq_true rfl) u_806 rfl (rfl) ?_
  refine zi_iconst (v := 2) dX12_apart_7 (by decide) ?_
  refine zg_iaload dX12_apart_8 (rfl) (Nat.le_of_ble_eq_true rfl) (zvi (by decide)) ?_
  show zA G (d + 6) mX12_apart 9 [some (.ref 56), some (.int x1), none, none] [.int (I 57 2), .int x1] (zh b I L) R
  refine zi_icmp_ge (tgt := 33) dX12_apart_9 (by decide) (fun c1 => ?_) (fun c1 => ?_)
  · have K := K.1 c1
    refine zi_iconst (v := (-1)) dX12_apart_33 (by decide) ?_
    refine zi_istore_n (ls' := [some (.ref 56), some (.int (-1)), none, none]) dX12_apart_34 rfl (by decide) rfl ?_
    refine zi_iconst (v := 0) dX12_apart_35 (by decide) ?_
    refine zi_istore_n (ls' := [some (.ref 56), some (.int (-1)), some (.int 0), none]) dX12_apart_36 rfl (by decide) rfl ?_
    exact K
  · have K := K.2 c1
    refine zi_aload_n dX12_apart_12 rfl rfl ?_
    refine zg_getF (k := 19) (v := .ref 69) dX12_apart_13 zc12 rfl (Nat.le_of_ble_eq_true rfl) (Nat.le_of_ble_eq_true rfl) u_825 rfl (rfl) ?_
    refine zi_iload_n dX12_apart_16 rfl rfl ?_
    refine zi_aload_n dX12_apart_17 rfl rfl ?_
    refine zg_getF (k := 0) (v := .ref 57) dX12_apart_18 zc12 rfl (Nat.le_of_ble_eq_true rfl) (Nat.le_of_ble_eq_true rfl) u_806 rfl (rfl) ?_
    refine zi_bipush (v := 113) dX12_apart_21 (by decide) ?_
    refine zi_iload_n dX12_apart_23 rfl rfl ?_
    refine zi_iadd dX12_apart_24 ?_
    have o2 := K.1
    have K := K.2
    refine zg_iaload dX12_apart_25 (rfl) (Nat.le_of_ble_eq_true rfl) o2 ?_
    have o3 := K.1
    have K := K.2
    refine zg_iastore dX12_apart_26 (rfl) (Nat.le_of_ble_eq_true rfl) o3 ?_
    refine zi_iinc (v := x1 + 1) (ls' := [some (.ref 56), some (.int (x1 + 1)), none, none]) dX12_apart_27 rfl (by decide) rfl rfl ?_
    refine zi_goto (tgt := 2) dX12_apart_30 (by decide) ?_
    exact K
set_option maxRecDepth 100000 in
theorem tX12_apart_37 {G : zG} {d b : Nat} {I : Nat → Nat → Int32} {L : Nat → Nat → Int64} {R : zR} {x1 : Int32} {x2 : Int32}
    (K : ((100 ≤ x2 → zA G (d + 6) mX12_apart 99 [some (.ref 56), some (.int x1), some (.int 0), none] [] (zh b I L) R) ∧ (¬ 100 ≤ x2 → ((¬ x1 = (-1) → zA G (d + 6) mX12_apart 99 [some (.ref 56), some (.int x1), some (.int 0), none] [] (zh b I L) R) ∧ (x1 = (-1) → zA G (d + 6) mX12_apart 50 [some (.ref 56), some (.int x1), some (.int x2), some (.int 0)] [] (zh b I L) R))))) :
    zA G (d + 6) mX12_apart 37 [some (.ref 56), some (.int x1), some (.int x2), none] [] (zh b I L) R := by
  refine zi_iload_n dX12_apart_37 rfl rfl ?_
  refine zi_bipush (v := 100) dX12_apart_38 (by decide) ?_
  refine zi_icmp_ge (tgt := 97) dX12_apart_40 (by decide) (fun c1 => ?_) (fun c1 => ?_)
  · have K := K.1 c1
    refine zi_iconst (v := 0) dX12_apart_97 (by decide) ?_
    refine zi_istore_n (ls' := [some (.ref 56), some (.int x1), some (.int 0), none]) dX12_apart_98 rfl (by decide) rfl ?_
    exact K
  · have K := K.2 c1
    refine zi_iload_n dX12_apart_43 rfl rfl ?_
    refine zi_iconst (v := (-1)) dX12_apart_44 (by decide) ?_
    refine zi_icmp_ne (tgt := 97) dX12_apart_45 (by decide) (fun c2 => ?_) (fun c2 => ?_)
    · have K := K.1 c2
      refine zi_iconst (v := 0) dX12_apart_97 (by decide) ?_
      refine zi_istore_n (ls' := [some (.ref 56), some (.int x1), some (.int 0), none]) dX12_apart_98 rfl (by decide) rfl ?_
      exact K
    · have K := K.2 c2
      refine zi_iconst (v := 0) dX12_apart_48 (by decide) ?_
      refine zi_istore_n (ls' := [some (.ref 56), some (.int x1), some (.int x2), some (.int 0)]) dX12_apart_49 rfl (by decide) rfl ?_
      exact K
set_option maxRecDepth 100000 in
theorem tX12_apart_50 {G : zG} {d b : Nat} {I : Nat → Nat → Int32} {L : Nat → Nat → Int64} {R : zR} {x1 : Int32} {x2 : Int32} {x3 : Int32} (hR : zR0 R)
    (K : (((I 57 2) ≤ x3 → (∃ (r2 : Int32) (I3 : Nat → Nat → Int32), zCall (d + 5) mX12_meets [.ref 56] (zh b I L) (some (.int r2), zh b I3 L) ∧ ((¬ r2 = 0 → zA G (d + 6) mX12_apart 37 [some (.ref 56), some (.int (-1)), some (.int (x2 + 1)), none] [] (zh b I3 L) R) ∧ (r2 = 0 → zA G (d + 6) mX12_apart 37 [some (.ref 56), some (.int x2), some (.int (x2 + 1)), none] [] (zh b I3 L) R)))) ∧ (¬ (I 57 2) ≤ x3 → (vp_in (113 + x3) 463 ∧ zA G (d + 6) mX12_apart 50 [some (.ref 56), some (.int x1), some (.int x2), some (.int (x3 + 1))] [] (zh b (zup I 57 (zx (113 + x3)) (x3 * x2)) L) R)))) :
    zA G (d + 6) mX12_apart 50 [some (.ref 56), some (.int x1), some (.int x2), some (.int x3)] [] (zh b I L) R := by
  refine zi_iload_n dX12_apart_50 rfl rfl ?_
  refine zi_aload_n dX12_apart_51 rfl rfl ?_
  refine zg_getF (k := 0) (v := .ref 57) dX12_apart_52 zc12 rfl (Nat.le_of_ble_eq_true rfl) (Nat.le_of_ble_eq_true rfl) u_806 rfl (rfl) ?_
  refine zi_iconst (v := 2) dX12_apart_55 (by decide) ?_
  refine zg_iaload dX12_apart_56 (rfl) (Nat.le_of_ble_eq_true rfl) (zvi (by decide)) ?_
  show zA G (d + 6) mX12_apart 57 [some (.ref 56), some (.int x1), some (.int x2), some (.int x3)] [.int (I 57 2), .int x3] (zh b I L) R
  refine zi_icmp_ge (tgt := 78) dX12_apart_57 (by decide) (fun c1 => ?_) (fun c1 => ?_)
  · have K := K.1 c1
    refine zi_aload_n dX12_apart_78 rfl rfl ?_
    obtain ⟨r2, I3, h4, K⟩ := K
    refine zi_callV (N := mX12_meets) (av := []) (st := []) (R1 := (some (.int r2), zh b I3 L)) dX12_apart_79 okX12_meets u_1062 u_1064 s_42 zc12 (rfl) (Nat.le_of_ble_eq_true rfl) arX12_meets rfl (Nat.le_of_ble_eq_true rfl) (h4) hR ?_
    show zA G (d + 6) mX12_apart 82 [some (.ref 56), some (.int x1), some (.int x2), some (.int x3)] [.int r2] (zh b I3 L) R
    refine zi_if_ne (tgt := 89) dX12_apart_82 (by decide) (fun c5 => ?_) (fun c5 => ?_)
    · have K := K.1 c5
      refine zi_iconst (v := (-1)) dX12_apart_89 (by decide) ?_
      refine zi_istore_n (ls' := [some (.ref 56), some (.int (-1)), some (.int x2), some (.int x3)]) dX12_apart_90 rfl (by decide) rfl ?_
      refine zi_iinc (v := x2 + 1) (ls' := [some (.ref 56), some (.int (-1)), some (.int (x2 + 1)), some (.int x3)]) dX12_apart_91 rfl (by decide) rfl rfl ?_
      refine zi_goto (tgt := 37) dX12_apart_94 (by decide) ?_
      refine zi_mask [true, true, true, false] rfl ?_
      exact K
    · have K := K.2 c5
      refine zi_iload_n dX12_apart_85 rfl rfl ?_
      refine zi_goto (tgt := 90) dX12_apart_86 (by decide) ?_
      refine zi_istore_n (ls' := [some (.ref 56), some (.int x2), some (.int x2), some (.int x3)]) dX12_apart_90 rfl (by decide) rfl ?_
      refine zi_iinc (v := x2 + 1) (ls' := [some (.ref 56), some (.int x2), some (.int (x2 + 1)), some (.int x3)]) dX12_apart_91 rfl (by decide) rfl rfl ?_
      refine zi_goto (tgt := 37) dX12_apart_94 (by decide) ?_
      refine zi_mask [true, true, true, false] rfl ?_
      exact K
  · have K := K.2 c1
    refine zi_aload_n dX12_apart_60 rfl rfl ?_
    refine zg_getF (k := 0) (v := .ref 57) dX12_apart_61 zc12 rfl (Nat.le_of_ble_eq_true rfl) (Nat.le_of_ble_eq_true rfl) u_806 rfl (rfl) ?_
    refine zi_bipush (v := 113) dX12_apart_64 (by decide) ?_
    refine zi_iload_n dX12_apart_66 rfl rfl ?_
    refine zi_iadd dX12_apart_67 ?_
    refine zi_iload_n dX12_apart_68 rfl rfl ?_
    refine zi_iload_n dX12_apart_69 rfl rfl ?_
    refine zi_imul dX12_apart_70 ?_
    have o6 := K.1
    have K := K.2
    refine zg_iastore dX12_apart_71 (rfl) (Nat.le_of_ble_eq_true rfl) o6 ?_
    refine zi_iinc (v := x3 + 1) (ls' := [some (.ref 56), some (.int x1), some (.int x2), some (.int (x3 + 1))]) dX12_apart_72 rfl (by decide) rfl rfl ?_
    refine zi_goto (tgt := 50) dX12_apart_75 (by decide) ?_
    exact K
set_option maxRecDepth 100000 in
theorem tX12_apart_99 {G : zG} {d b : Nat} {I : Nat → Nat → Int32} {L : Nat → Nat → Int64} {R : zR} {x1 : Int32} {x2 : Int32}
    (K : (((I 57 2) ≤ x2 → R = (some (.int x1), zh b I L)) ∧ (¬ (I 57 2) ≤ x2 → (vp_in x2 6 ∧ (vp_in (113 + x2) 463 ∧ zA G (d + 6) mX12_apart 99 [some (.ref 56), some (.int x1), some (.int (x2 + 1)), none] [] (zh b (zup I 57 (zx (113 + x2)) (I 69 (zx x2))) L) R))))) :
    zA G (d + 6) mX12_apart 99 [some (.ref 56), some (.int x1), some (.int x2), none] [] (zh b I L) R := by
  refine zi_iload_n dX12_apart_99 rfl rfl ?_
  refine zi_aload_n dX12_apart_100 rfl rfl ?_
  refine zg_getF (k := 0) (v := .ref 57) dX12_apart_101 zc12 rfl (Nat.le_of_ble_eq_true rfl) (Nat.le_of_ble_eq_true rfl) u_806 rfl (rfl) ?_
  refine zi_iconst (v := 2) dX12_apart_104 (by decide) ?_
  refine zg_iaload dX12_apart_105 (rfl) (Nat.le_of_ble_eq_true rfl) (zvi (by decide)) ?_
  show zA G (d + 6) mX12_apart 106 [some (.ref 56), some (.int x1), some (.int x2), none] [.int (I 57 2), .int x2] (zh b I L) R
  refine zi_icmp_ge (tgt := 130) dX12_apart_106 (by decide) (fun c1 => ?_) (fun c1 => ?_)
  · have K := K.1 c1
    refine zi_iload_n dX12_apart_130 rfl rfl ?_
    subst K
    exact zi_ireturn dX12_apart_131 rfl rfl
  · have K := K.2 c1
    refine zi_aload_n dX12_apart_109 rfl rfl ?_
    refine zg_getF (k := 0) (v := .ref 57) dX12_apart_110 zc12 rfl (Nat.le_of_ble_eq_true rfl) (Nat.le_of_ble_eq_true rfl) u_806 rfl (rfl) ?_
    refine zi_bipush (v := 113) dX12_apart_113 (by decide) ?_
    refine zi_iload_n dX12_apart_115 rfl rfl ?_
    refine zi_iadd dX12_apart_116 ?_
    refine zi_aload_n dX12_apart_117 rfl rfl ?_
    refine zg_getF (k := 19) (v := .ref 69) dX12_apart_118 zc12 rfl (Nat.le_of_ble_eq_true rfl) (Nat.le_of_ble_eq_true rfl) u_825 rfl (rfl) ?_
    refine zi_iload_n dX12_apart_121 rfl rfl ?_
    have o2 := K.1
    have K := K.2
    refine zg_iaload dX12_apart_122 (rfl) (Nat.le_of_ble_eq_true rfl) o2 ?_
    have o3 := K.1
    have K := K.2
    refine zg_iastore dX12_apart_123 (rfl) (Nat.le_of_ble_eq_true rfl) o3 ?_
    refine zi_iinc (v := x2 + 1) (ls' := [some (.ref 56), some (.int x1), some (.int (x2 + 1)), none]) dX12_apart_124 rfl (by decide) rfl rfl ?_
    refine zi_goto (tgt := 99) dX12_apart_127 (by decide) ?_
    exact K
set_option maxRecDepth 100000 in
theorem tX12_began_0 {G : zG} {d b : Nat} {I : Nat → Nat → Int32} {L : Nat → Nat → Int64} {R : zR} {x1 : Int32} {x2 : Int32} (hR : zR0 R)
    (K : ((¬ (0 ≤ x1.toInt64 ∧ x1.toInt64 ≤ (I 57 2 - 1).toInt64) → (∃ (r2 : Int32) (I3 : Nat → Nat → Int32), zCall (d + 4) mX12_refuse [.ref 56, .int (-2)] (zh b I L) (some (.int r2), zh b I3 L) ∧ R = (some (.int (r2 - 998)), zh b I3 L))) ∧ ((0 ≤ x1.toInt64 ∧ x1.toInt64 ≤ (I 57 2 - 1).toInt64) → (((0 ≤ x2.toInt64 ∧ x2.toInt64 ≤ 999) → (∃ (r6 : Int32) (I7 : Nat → Nat → Int32), zCall (d + 4) mX12_downOf [.ref 56, .int x1] (zh b I L) (some (.int r6), zh b I7 L) ∧ (vp_in (113 + x1) 463 ∧ R = (some (.int ((x2 - r6) + (I7 57 (zx (113 + x1))))), zh b I7 L)))) ∧ (¬ (0 ≤ x2.toInt64 ∧ x2.toInt64 ≤ 999) → (∃ (r10 : Int32) (I11 : Nat → Nat → Int32), zCall (d + 4) mX12_refuse [.ref 56, .int (-2)] (zh b I L) (some (.int r10), zh b I11 L) ∧ R = (some (.int (r10 - 998)), zh b I11 L))))))) :
    zA G (d + 5) mX12_began 0 [some (.ref 56), some (.int x1), some (.int x2)] [] (zh b I L) R := by
  refine zi_aload_n dX12_began_0 rfl rfl ?_
  refine zi_iload_n dX12_began_1 rfl rfl ?_
  refine zi_callV (N := mX12_isRunner) (av := [.int x1]) (st := []) (R1 := (some (.int (zb (0 ≤ x1.toInt64 ∧ x1.toInt64 ≤ (I 57 2 - 1).toInt64))), zh b I L)) dX12_began_2 okX12_isRunner u_922 u_924 s_24 zc12 (rfl) (Nat.le_of_ble_eq_true rfl) arX12_isRunner rfl (Nat.le_of_ble_eq_true rfl) (kX12_isRunner _) hR ?_
  show zA G (d + 5) mX12_began 5 [some (.ref 56), some (.int x1), some (.int x2)] [.int (zb (0 ≤ x1.toInt64 ∧ x1.toInt64 ≤ (I 57 2 - 1).toInt64))] (zh b I L) R
  refine zi_if_eq (tgt := 20) dX12_began_5 (by decide) (fun c1 => ?_) (fun c1 => ?_)
  · have K := K.1 (zb_0 c1)
    refine zi_aload_n dX12_began_20 rfl rfl ?_
    refine zi_bipush (v := (-2)) dX12_began_21 (by decide) ?_
    obtain ⟨r2, I3, h4, K⟩ := K
    refine zi_callV (N := mX12_refuse) (av := [.int (-2)]) (st := []) (R1 := (some (.int r2), zh b I3 L)) dX12_began_23 okX12_refuse u_886 u_888 s_23 zc12 (rfl) (Nat.le_of_ble_eq_true rfl) arX12_refuse rfl (Nat.le_of_ble_eq_true rfl) (h4) hR ?_
    show zA G (d + 5) mX12_began 26 [some (.ref 56), some (.int x1), some (.int x2)] [.int r2] (zh b I3 L) R
    refine zi_sipush (v := 998) dX12_began_26 (by decide) ?_
    refine zi_isub dX12_began_29 ?_
    subst K
    exact zi_ireturn dX12_began_30 rfl rfl
  · have K := K.2 (zb_1 c1)
    refine zi_iload_n dX12_began_8 rfl rfl ?_
    refine zi_i2l dX12_began_9 ?_
    refine zi_lconst (v := 0) dX12_began_10 (by decide) ?_
    refine zi_ldc2 dX12_began_11 u_1078 ?_
    refine zi_callS (N := mX12_in) (av := [.long x2.toInt64, .long 0, .long 999]) (st := []) (R1 := (some (.int (zb (0 ≤ x2.toInt64 ∧ x2.toInt64 ≤ 999))), zh b I L)) dX12_began_14 okX12_in u_803 u_804 arX12_in rfl (Nat.le_of_ble_eq_true rfl) (kX12_in _ _ _) hR ?_
    show zA G (d + 5) mX12_began 17 [some (.ref 56), some (.int x1), some (.int x2)] [.int (zb (0 ≤ x2.toInt64 ∧ x2.toInt64 ≤ 999))] (zh b I L) R
    refine zi_if_ne (tgt := 31) dX12_began_17 (by decide) (fun c5 => ?_) (fun c5 => ?_)
    · have K := K.1 (zb_1 c5)
      refine zi_iload_n dX12_began_31 rfl rfl ?_
      refine zi_aload_n dX12_began_32 rfl rfl ?_
      refine zi_iload_n dX12_began_33 rfl rfl ?_
      obtain ⟨r6, I7, h8, K⟩ := K
      refine zi_callV (N := mX12_downOf) (av := [.int x1]) (st := [.int x2]) (R1 := (some (.int r6), zh b I7 L)) dX12_began_34 okX12_downOf u_1054 u_1056 s_41 zc12 (rfl) (Nat.le_of_ble_eq_true rfl) arX12_downOf rfl (Nat.le_of_ble_eq_true rfl) (h8) hR ?_
      show zA G (d + 5) mX12_began 37 [some (.ref 56), some (.int x1), some (.int x2)] [.int r6, .int x2] (zh b I7 L) R
      refine zi_isub dX12_began_37 ?_
      refine zi_aload_n dX12_began_38 rfl rfl ?_
      refine zg_getF (k := 0) (v := .ref 57) dX12_began_39 zc12 rfl (Nat.le_of_ble_eq_true rfl) (Nat.le_of_ble_eq_true rfl) u_806 rfl (rfl) ?_
      refine zi_bipush (v := 113) dX12_began_42 (by decide) ?_
      refine zi_iload_n dX12_began_44 rfl rfl ?_
      refine zi_iadd dX12_began_45 ?_
      have o9 := K.1
      have K := K.2
      refine zg_iaload dX12_began_46 (rfl) (Nat.le_of_ble_eq_true rfl) o9 ?_
      refine zi_iadd dX12_began_47 ?_
      subst K
      exact zi_ireturn dX12_began_48 rfl rfl
    · have K := K.2 (zb_0 c5)
      refine zi_aload_n dX12_began_20 rfl rfl ?_
      refine zi_bipush (v := (-2)) dX12_began_21 (by decide) ?_
      obtain ⟨r10, I11, h12, K⟩ := K
      refine zi_callV (N := mX12_refuse) (av := [.int (-2)]) (st := []) (R1 := (some (.int r10), zh b I11 L)) dX12_began_23 okX12_refuse u_886 u_888 s_23 zc12 (rfl) (Nat.le_of_ble_eq_true rfl) arX12_refuse rfl (Nat.le_of_ble_eq_true rfl) (h12) hR ?_
      show zA G (d + 5) mX12_began 26 [some (.ref 56), some (.int x1), some (.int x2)] [.int r10] (zh b I11 L) R
      refine zi_sipush (v := 998) dX12_began_26 (by decide) ?_
      refine zi_isub dX12_began_29 ?_
      subst K
      exact zi_ireturn dX12_began_30 rfl rfl
set_option maxRecDepth 100000 in
theorem tX12_rolls_0 {G : zG} {d b : Nat} {I : Nat → Nat → Int32} {L : Nat → Nat → Int64} {R : zR} {x1 : Int32}
    (K : zA G (d + 1) mX12_rolls 2 [some (.ref 56), some (.int x1), some (.int 0), none, none] [] (zh b I L) R) :
    zA G (d + 1) mX12_rolls 0 [some (.ref 56), some (.int x1), none, none, none] [] (zh b I L) R := by
  refine zi_iconst (v := 0) dX12_rolls_0 (by decide) ?_
  refine zi_istore_n (ls' := [some (.ref 56), some (.int x1), some (.int 0), none, none]) dX12_rolls_1 rfl (by decide) rfl ?_
  exact K
set_option maxRecDepth 100000 in
theorem tX12_rolls_2 {G : zG} {d b : Nat} {I : Nat → Nat → Int32} {L : Nat → Nat → Int64} {R : zR} {x1 : Int32} {x2 : Int32}
    (K : ((6 ≤ x2 → zA G (d + 1) mX12_rolls 32 [some (.ref 56), some (.int x1), some (.int 0), none, none] [] (zh b I L) R) ∧ (¬ 6 ≤ x2 → ((¬ x2 = x1 → (vp_in x2 6 ∧ zA G (d + 1) mX12_rolls 2 [some (.ref 56), some (.int x1), some (.int (x2 + 1)), none, none] [] (zh b (zup I 70 (zx x2) 0) L) R)) ∧ (x2 = x1 → (vp_in x2 6 ∧ zA G (d + 1) mX12_rolls 2 [some (.ref 56), some (.int x1), some (.int (x2 + 1)), none, none] [] (zh b (zup I 70 (zx x2) 1) L) R)))))) :
    zA G (d + 1) mX12_rolls 2 [some (.ref 56), some (.int x1), some (.int x2), none, none] [] (zh b I L) R := by
  refine zi_iload_n dX12_rolls_2 rfl rfl ?_
  refine zi_bipush (v := 6) dX12_rolls_3 (by decide) ?_
  refine zi_icmp_ge (tgt := 30) dX12_rolls_5 (by decide) (fun c1 => ?_) (fun c1 => ?_)
  · have K := K.1 c1
    refine zi_iconst (v := 0) dX12_rolls_30 (by decide) ?_
    refine zi_istore_n (ls' := [some (.ref 56), some (.int x1), some (.int 0), none, none]) dX12_rolls_31 rfl (by decide) rfl ?_
    exact K
  · have K := K.2 c1
    refine zi_aload_n dX12_rolls_8 rfl rfl ?_
    refine zg_getF (k := 20) (v := .ref 70) dX12_rolls_9 zc12 rfl (Nat.le_of_ble_eq_true rfl) (Nat.le_of_ble_eq_true rfl) u_826 rfl (rfl) ?_
    refine zi_iload_n dX12_rolls_12 rfl rfl ?_
    refine zi_iload_n dX12_rolls_13 rfl rfl ?_
    refine zi_iload_n dX12_rolls_14 rfl rfl ?_
    refine zi_icmp_ne (tgt := 22) dX12_rolls_15 (by decide) (fun c2 => ?_) (fun c2 => ?_)
    · have K := K.1 c2
      refine zi_iconst (v := 0) dX12_rolls_22 (by decide) ?_
      have o3 := K.1
      have K := K.2
      refine zg_iastore dX12_rolls_23 (rfl) (Nat.le_of_ble_eq_true rfl) o3 ?_
      refine zi_iinc (v := x2 + 1) (ls' := [some (.ref 56), some (.int x1), some (.int (x2 + 1)), none, none]) dX12_rolls_24 rfl (by decide) rfl rfl ?_
      refine zi_goto (tgt := 2) dX12_rolls_27 (by decide) ?_
      exact K
    · have K := K.2 c2
      refine zi_iconst (v := 1) dX12_rolls_18 (by decide) ?_
      refine zi_goto (tgt := 23) dX12_rolls_19 (by decide) ?_
      have o4 := K.1
      have K := K.2
      refine zg_iastore dX12_rolls_23 (rfl) (Nat.le_of_ble_eq_true rfl) o4 ?_
      refine zi_iinc (v := x2 + 1) (ls' := [some (.ref 56), some (.int x1), some (.int (x2 + 1)), none, none]) dX12_rolls_24 rfl (by decide) rfl rfl ?_
      refine zi_goto (tgt := 2) dX12_rolls_27 (by decide) ?_
      exact K
set_option maxRecDepth 100000 in
theorem tX12_rolls_32 {G : zG} {d b : Nat} {I : Nat → Nat → Int32} {L : Nat → Nat → Int64} {R : zR} {x1 : Int32} {x2 : Int32}
    (K : (((I 57 0) ≤ x2 → R = (none, zh b I L)) ∧ (¬ (I 57 0) ≤ x2 → zA G (d + 1) mX12_rolls 44 [some (.ref 56), some (.int x1), some (.int x2), some (.int 0), none] [] (zh b I L) R))) :
    zA G (d + 1) mX12_rolls 32 [some (.ref 56), some (.int x1), some (.int x2), none, none] [] (zh b I L) R := by
  refine zi_iload_n dX12_rolls_32 rfl rfl ?_
  refine zi_aload_n dX12_rolls_33 rfl rfl ?_
  refine zg_getF (k := 0) (v := .ref 57) dX12_rolls_34 zc12 rfl (Nat.le_of_ble_eq_true rfl) (Nat.le_of_ble_eq_true rfl) u_806 rfl (rfl) ?_
  refine zi_iconst (v := 0) dX12_rolls_37 (by decide) ?_
  refine zg_iaload dX12_rolls_38 (rfl) (Nat.le_of_ble_eq_true rfl) (zvi (by decide)) ?_
  show zA G (d + 1) mX12_rolls 39 [some (.ref 56), some (.int x1), some (.int x2), none, none] [.int (I 57 0), .int x2] (zh b I L) R
  refine zi_icmp_ge (tgt := 193) dX12_rolls_39 (by decide) (fun c1 => ?_) (fun c1 => ?_)
  · have K := K.1 c1
    subst K
    exact zi_return dX12_rolls_193 rfl
  · have K := K.2 c1
    refine zi_iconst (v := 0) dX12_rolls_42 (by decide) ?_
    refine zi_istore_n (ls' := [some (.ref 56), some (.int x1), some (.int x2), some (.int 0), none]) dX12_rolls_43 rfl (by decide) rfl ?_
    exact K
set_option maxRecDepth 100000 in
theorem tX12_rolls_44 {G : zG} {d b : Nat} {I : Nat → Nat → Int32} {L : Nat → Nat → Int64} {R : zR} {x1 : Int32} {x2 : Int32} {x3 : Int32}
    (K : ((6 ≤ x3 → zA G (d + 1) mX12_rolls 65 [some (.ref 56), some (.int x1), some (.int x2), some (.int 0), none] [] (zh b I L) R) ∧ (¬ 6 ≤ x3 → (vp_in x3 6 ∧ zA G (d + 1) mX12_rolls 44 [some (.ref 56), some (.int x1), some (.int x2), some (.int (x3 + 1)), none] [] (zh b (zup I 71 (zx x3) 0) L) R)))) :
    zA G (d + 1) mX12_rolls 44 [some (.ref 56), some (.int x1), some (.int x2), some (.int x3), none] [] (zh b I L) R := by
  refine zi_iload_n dX12_rolls_44 rfl rfl ?_
  refine zi_bipush (v := 6) dX12_rolls_45 (by decide) ?_
  refine zi_icmp_ge (tgt := 63) dX12_rolls_47 (by decide) (fun c1 => ?_) (fun c1 => ?_)
  · have K := K.1 c1
    refine zi_iconst (v := 0) dX12_rolls_63 (by decide) ?_
    refine zi_istore_n (ls' := [some (.ref 56), some (.int x1), some (.int x2), some (.int 0), none]) dX12_rolls_64 rfl (by decide) rfl ?_
    exact K
  · have K := K.2 c1
    refine zi_aload_n dX12_rolls_50 rfl rfl ?_
    refine zg_getF (k := 21) (v := .ref 71) dX12_rolls_51 zc12 rfl (Nat.le_of_ble_eq_true rfl) (Nat.le_of_ble_eq_true rfl) u_827 rfl (rfl) ?_
    refine zi_iload_n dX12_rolls_54 rfl rfl ?_
    refine zi_iconst (v := 0) dX12_rolls_55 (by decide) ?_
    have o2 := K.1
    have K := K.2
    refine zg_iastore dX12_rolls_56 (rfl) (Nat.le_of_ble_eq_true rfl) o2 ?_
    refine zi_iinc (v := x3 + 1) (ls' := [some (.ref 56), some (.int x1), some (.int x2), some (.int (x3 + 1)), none]) dX12_rolls_57 rfl (by decide) rfl rfl ?_
    refine zi_goto (tgt := 44) dX12_rolls_60 (by decide) ?_
    exact K
set_option maxRecDepth 100000 in
theorem tX12_rolls_65 {G : zG} {d b : Nat} {I : Nat → Nat → Int32} {L : Nat → Nat → Int64} {R : zR} {x1 : Int32} {x2 : Int32} {x3 : Int32} (hR : zR0 R)
    (K : (((I 57 1) ≤ x3 → zA G (d + 1) mX12_rolls 163 [some (.ref 56), some (.int x1), some (.int x2), some (.int 0), none] [] (zh b I L) R) ∧ (¬ (I 57 1) ≤ x3 → (vp_in (zca 1 x2 x3) 463 ∧ ((¬ (I 57 (zx (zca 1 x2 x3))) = 1 → (((0 : Int32) = 0 → (vp_in x3 6 ∧ (vp_in x3 6 ∧ (vp_in x3 6 ∧ (((0 : Int32) = 0 → (vp_in x3 6 ∧ (vp_in x3 6 ∧ (vp_in x3 6 ∧ (∀ I12 : Nat → Nat → Int32, I12 = (zup I 71 (zx x3) ((I 71 (zx x3)) + (I 70 (zx x3)))) → zA G (d + 1) mX12_rolls 65 [some (.ref 56), some (.int x1), some (.int x2), some (.int (x3 + 1)), none] [] (zh b (zup I12 71 (zx x3) (((zup I 71 (zx x3) ((I 71 (zx x3)) + (I 70 (zx x3)))) 71 (zx x3)) + ((zup I 71 (zx x3) ((I 71 (zx x3)) + (I 70 (zx x3)))) 70 (zx x3)))) L) R))))) ∧ (¬ (0 : Int32) = 0 → (vp_in (zlb ((zup I 71 (zx x3) ((I 71 (zx x3)) + (I 70 (zx x3)))) 57 1) x3 2) 6 ∧ (vp_in x3 6 ∧ (vp_in (zlb ((zup I 71 (zx x3) ((I 71 (zx x3)) + (I 70 (zx x3)))) 57 1) x3 2) 6 ∧ (∀ I16 : Nat → Nat → Int32, I16 = (zup I 71 (zx x3) ((I 71 (zx x3)) + (I 70 (zx x3)))) → zA G (d + 1) mX12_rolls 65 [some (.ref 56), some (.int x1), some (.int x2), some (.int (x3 + 1)), none] [] (zh b (zup I16 71 (zx (zlb ((zup I 71 (zx x3) ((I 71 (zx x3)) + (I 70 (zx x3)))) 57 1) x3 2)) (((zup I 71 (zx x3) ((I 71 (zx x3)) + (I 70 (zx x3)))) 71 (zx (zlb ((zup I 71 (zx x3) ((I 71 (zx x3)) + (I 70 (zx x3)))) 57 1) x3 2))) + ((zup I 71 (zx x3) ((I 71 (zx x3)) + (I 70 (zx x3)))) 70 (zx x3)))) L) R)))))))))) ∧ (¬ (0 : Int32) = 0 → (vp_in (zlb (I 57 1) x3 1) 6 ∧ (vp_in x3 6 ∧ (vp_in (zlb (I 57 1) x3 1) 6 ∧ (((0 : Int32) = 0 → (vp_in x3 6 ∧ (vp_in x3 6 ∧ (vp_in x3 6 ∧ (∀ I24 : Nat → Nat → Int32, I24 = (zup I 71 (zx (zlb (I 57 1) x3 1)) ((I 71 (zx (zlb (I 57 1) x3 1))) + (I 70 (zx x3)))) → zA G (d + 1) mX12_rolls 65 [some (.ref 56), some (.int x1), some (.int x2), some (.int (x3 + 1)), none] [] (zh b (zup I24 71 (zx x3) (((zup I 71 (zx (zlb (I 57 1) x3 1)) ((I 71 (zx (zlb (I 57 1) x3 1))) + (I 70 (zx x3)))) 71 (zx x3)) + ((zup I 71 (zx (zlb (I 57 1) x3 1)) ((I 71 (zx (zlb (I 57 1) x3 1))) + (I 70 (zx x3)))) 70 (zx x3)))) L) R))))) ∧ (¬ (0 : Int32) = 0 → (vp_in (zlb ((zup I 71 (zx (zlb (I 57 1) x3 1)) ((I 71 (zx (zlb (I 57 1) x3 1))) + (I 70 (zx x3)))) 57 1) x3 2) 6 ∧ (vp_in x3 6 ∧ (vp_in (zlb ((zup I 71 (zx (zlb (I 57 1) x3 1)) ((I 71 (zx (zlb (I 57 1) x3 1))) + (I 70 (zx x3)))) 57 1) x3 2) 6 ∧ (∀ I28 : Nat → Nat → Int32, I28 = (zup I 71 (zx (zlb (I 57 1) x3 1)) ((I 71 (zx (zlb (I 57 1) x3 1))) + (I 70 (zx x3)))) → zA G (d + 1) mX12_rolls 65 [some (.ref 56), some (.int x1), some (.int x2), some (.int (x3 + 1)), none] [] (zh b (zup I28 71 (zx (zlb ((zup I 71 (zx (zlb (I 57 1) x3 1)) ((I 71 (zx (zlb (I 57 1) x3 1))) + (I 70 (zx x3)))) 57 1) x3 2)) (((zup I 71 (zx (zlb (I 57 1) x3 1)) ((I 71 (zx (zlb (I 57 1) x3 1))) + (I 70 (zx x3)))) 71 (zx (zlb ((zup I 71 (zx (zlb (I 57 1) x3 1)) ((I 71 (zx (zlb (I 57 1) x3 1))) + (I 70 (zx x3)))) 57 1) x3 2))) + ((zup I 71 (zx (zlb (I 57 1) x3 1)) ((I 71 (zx (zlb (I 57 1) x3 1))) + (I 70 (zx x3)))) 70 (zx x3)))) L) R)))))))))))) ∧ ((I 57 (zx (zca 1 x2 x3))) = 1 → (((1 : Int32) = 0 → (vp_in x3 6 ∧ (vp_in x3 6 ∧ (vp_in x3 6 ∧ (((1 : Int32) = 0 → (vp_in x3 6 ∧ (vp_in x3 6 ∧ (vp_in x3 6 ∧ (∀ I37 : Nat → Nat → Int32, I37 = (zup I 71 (zx x3) ((I 71 (zx x3)) + (I 70 (zx x3)))) → zA G (d + 1) mX12_rolls 65 [some (.ref 56), some (.int x1), some (.int x2), some (.int (x3 + 1)), none] [] (zh b (zup I37 71 (zx x3) (((zup I 71 (zx x3) ((I 71 (zx x3)) + (I 70 (zx x3)))) 71 (zx x3)) + ((zup I 71 (zx x3) ((I 71 (zx x3)) + (I 70 (zx x3)))) 70 (zx x3)))) L) R))))) ∧ (¬ (1 : Int32) = 0 → (vp_in (zlb ((zup I 71 (zx x3) ((I 71 (zx x3)) + (I 70 (zx x3)))) 57 1) x3 2) 6 ∧ (vp_in x3 6 ∧ (vp_in (zlb ((zup I 71 (zx x3) ((I 71 (zx x3)) + (I 70 (zx x3)))) 57 1) x3 2) 6 ∧ (∀ I41 : Nat → Nat → Int32, I41 = (zup I 71 (zx x3) ((I 71 (zx x3)) + (I 70 (zx x3)))) → zA G (d + 1) mX12_rolls 65 [some (.ref 56), some (.int x1), some (.int x2), some (.int (x3 + 1)), none] [] (zh b (zup I41 71 (zx (zlb ((zup I 71 (zx x3) ((I 71 (zx x3)) + (I 70 (zx x3)))) 57 1) x3 2)) (((zup I 71 (zx x3) ((I 71 (zx x3)) + (I 70 (zx x3)))) 71 (zx (zlb ((zup I 71 (zx x3) ((I 71 (zx x3)) + (I 70 (zx x3)))) 57 1) x3 2))) + ((zup I 71 (zx x3) ((I 71 (zx x3)) + (I 70 (zx x3)))) 70 (zx x3)))) L) R)))))))))) ∧ (¬ (1 : Int32) = 0 → (vp_in (zlb (I 57 1) x3 1) 6 ∧ (vp_in x3 6 ∧ (vp_in (zlb (I 57 1) x3 1) 6 ∧ (((1 : Int32) = 0 → (vp_in x3 6 ∧ (vp_in x3 6 ∧ (vp_in x3 6 ∧ (∀ I49 : Nat → Nat → Int32, I49 = (zup I 71 (zx (zlb (I 57 1) x3 1)) ((I 71 (zx (zlb (I 57 1) x3 1))) + (I 70 (zx x3)))) → zA G (d + 1) mX12_rolls 65 [some (.ref 56), some (.int x1), some (.int x2), some (.int (x3 + 1)), none] [] (zh b (zup I49 71 (zx x3) (((zup I 71 (zx (zlb (I 57 1) x3 1)) ((I 71 (zx (zlb (I 57 1) x3 1))) + (I 70 (zx x3)))) 71 (zx x3)) + ((zup I 71 (zx (zlb (I 57 1) x3 1)) ((I 71 (zx (zlb (I 57 1) x3 1))) + (I 70 (zx x3)))) 70 (zx x3)))) L) R))))) ∧ (¬ (1 : Int32) = 0 → (vp_in (zlb ((zup I 71 (zx (zlb (I 57 1) x3 1)) ((I 71 (zx (zlb (I 57 1) x3 1))) + (I 70 (zx x3)))) 57 1) x3 2) 6 ∧ (vp_in x3 6 ∧ (vp_in (zlb ((zup I 71 (zx (zlb (I 57 1) x3 1)) ((I 71 (zx (zlb (I 57 1) x3 1))) + (I 70 (zx x3)))) 57 1) x3 2) 6 ∧ (∀ I53 : Nat → Nat → Int32, I53 = (zup I 71 (zx (zlb (I 57 1) x3 1)) ((I 71 (zx (zlb (I 57 1) x3 1))) + (I 70 (zx x3)))) → zA G (d + 1) mX12_rolls 65 [some (.ref 56), some (.int x1), some (.int x2), some (.int (x3 + 1)), none] [] (zh b (zup I53 71 (zx (zlb ((zup I 71 (zx (zlb (I 57 1) x3 1)) ((I 71 (zx (zlb (I 57 1) x3 1))) + (I 70 (zx x3)))) 57 1) x3 2)) (((zup I 71 (zx (zlb (I 57 1) x3 1)) ((I 71 (zx (zlb (I 57 1) x3 1))) + (I 70 (zx x3)))) 71 (zx (zlb ((zup I 71 (zx (zlb (I 57 1) x3 1)) ((I 71 (zx (zlb (I 57 1) x3 1))) + (I 70 (zx x3)))) 57 1) x3 2))) + ((zup I 71 (zx (zlb (I 57 1) x3 1)) ((I 71 (zx (zlb (I 57 1) x3 1))) + (I 70 (zx x3)))) 70 (zx x3)))) L) R))))))))))))))))) :
    zA G (d + 1) mX12_rolls 65 [some (.ref 56), some (.int x1), some (.int x2), some (.int x3), none] [] (zh b I L) R := by
  refine zi_iload_n dX12_rolls_65 rfl rfl ?_
  refine zi_aload_n dX12_rolls_66 rfl rfl ?_
  refine zg_getF (k := 0) (v := .ref 57) dX12_rolls_67 zc12 rfl (Nat.le_of_ble_eq_true rfl) (Nat.le_of_ble_eq_true rfl) u_806 rfl (rfl) ?_
  refine zi_iconst (v := 1) dX12_rolls_70 (by decide) ?_
  refine zg_iaload dX12_rolls_71 (rfl) (Nat.le_of_ble_eq_true rfl) (zvi (by decide)) ?_
  show zA G (d + 1) mX12_rolls 72 [some (.ref 56), some (.int x1), some (.int x2), some (.int x3), none] [.int (I 57 1), .int x3] (zh b I L) R
  refine zi_icmp_ge (tgt := 161) dX12_rolls_72 (by decide) (fun c1 => ?_) (fun c1 => ?_)
  · have K := K.1 c1
    refine zi_iconst (v := 0) dX12_rolls_161 (by decide) ?_
    refine zi_istore_n (ls' := [some (.ref 56), some (.int x1), some (.int x2), some (.int 0), none]) dX12_rolls_162 rfl (by decide) rfl ?_
    exact K
  · have K := K.2 c1
    refine zi_aload_n dX12_rolls_75 rfl rfl ?_
    refine zg_getF (k := 0) (v := .ref 57) dX12_rolls_76 zc12 rfl (Nat.le_of_ble_eq_true rfl) (Nat.le_of_ble_eq_true rfl) u_806 rfl (rfl) ?_
    refine zi_iconst (v := 1) dX12_rolls_79 (by decide) ?_
    refine zi_iload_n dX12_rolls_80 rfl rfl ?_
    refine zi_iload_n dX12_rolls_81 rfl rfl ?_
    refine zi_callS (N := mX12_cellAt) (av := [.int 1, .int x2, .int x3]) (st := [.ref 57]) (R1 := (some (.int (zca 1 x2 x3)), zh b I L)) dX12_rolls_82 okX12_cellAt u_899 u_900 arX12_cellAt rfl (Nat.le_of_ble_eq_true rfl) (kX12_cellAt _ _ _) hR ?_
    show zA G (d + 1) mX12_rolls 85 [some (.ref 56), some (.int x1), some (.int x2), some (.int x3), none] [.int (zca 1 x2 x3), .ref 57] (zh b I L) R
    have o2 := K.1
    have K := K.2
    refine zg_iaload dX12_rolls_85 (rfl) (Nat.le_of_ble_eq_true rfl) o2 ?_
    refine zi_iconst (v := 1) dX12_rolls_86 (by decide) ?_
    refine zi_icmp_ne (tgt := 94) dX12_rolls_87 (by decide) (fun c3 => ?_) (fun c3 => ?_)
    · have K := K.1 c3
      refine zi_iconst (v := 0) dX12_rolls_94 (by decide) ?_
      refine zi_istore (ls' := [some (.ref 56), some (.int x1), some (.int x2), some (.int x3), some (.int 0)]) dX12_rolls_95 (by decide) rfl ?_
      refine zi_aload_n dX12_rolls_97 rfl rfl ?_
      refine zg_getF (k := 21) (v := .ref 71) dX12_rolls_98 zc12 rfl (Nat.le_of_ble_eq_true rfl) (Nat.le_of_ble_eq_true rfl) u_827 rfl (rfl) ?_
      refine zi_iload dX12_rolls_101 rfl ?_
      refine zi_if_eq (tgt := 115) dX12_rolls_103 (by decide) (fun c4 => ?_) (fun c4 => ?_)
      · have K := K.1 c4
        refine zi_iload_n dX12_rolls_115 rfl rfl ?_
        refine zi_dup2 dX12_rolls_116 rfl rfl ?_
        have o5 := K.1
        have K := K.2
        refine zg_iaload dX12_rolls_117 (rfl) (Nat.le_of_ble_eq_true rfl) o5 ?_
        refine zi_aload_n dX12_rolls_118 rfl rfl ?_
        refine zg_getF (k := 20) (v := .ref 70) dX12_rolls_119 zc12 rfl (Nat.le_of_ble_eq_true rfl) (Nat.le_of_ble_eq_true rfl) u_826 rfl (rfl) ?_
        refine zi_iload_n dX12_rolls_122 rfl rfl ?_
        have o6 := K.1
        have K := K.2
        refine zg_iaload dX12_rolls_123 (rfl) (Nat.le_of_ble_eq_true rfl) o6 ?_
        refine zi_iadd dX12_rolls_124 ?_
        have o7 := K.1
        have K := K.2
        refine zg_iastore dX12_rolls_125 (rfl) (Nat.le_of_ble_eq_true rfl) o7 ?_
        refine zi_aload_n dX12_rolls_126 rfl rfl ?_
        refine zg_getF (k := 21) (v := .ref 71) dX12_rolls_127 zc12 rfl (Nat.le_of_ble_eq_true rfl) (Nat.le_of_ble_eq_true rfl) u_827 rfl (rfl) ?_
        refine zi_iload dX12_rolls_130 rfl ?_
        refine zi_if_eq (tgt := 144) dX12_rolls_132 (by decide) (fun c8 => ?_) (fun c8 => ?_)
        · have K := K.1 c8
          refine zi_iload_n dX12_rolls_144 rfl rfl ?_
          refine zi_dup2 dX12_rolls_145 rfl rfl ?_
          have o9 := K.1
          have K := K.2
          refine zg_iaload dX12_rolls_146 (rfl) (Nat.le_of_ble_eq_true rfl) o9 ?_
          refine zi_aload_n dX12_rolls_147 rfl rfl ?_
          refine zg_getF (k := 20) (v := .ref 70) dX12_rolls_148 zc12 rfl (Nat.le_of_ble_eq_true rfl) (Nat.le_of_ble_eq_true rfl) u_826 rfl (rfl) ?_
          refine zi_iload_n dX12_rolls_151 rfl rfl ?_
          have o10 := K.1
          have K := K.2
          refine zg_iaload dX12_rolls_152 (rfl) (Nat.le_of_ble_eq_true rfl) o10 ?_
          refine zi_iadd dX12_rolls_153 ?_
          have o11 := K.1
          have K := K.2
          refine zi_name (fun I12 hI12 => ?_)
          have K := K I12 hI12
          refine zg_iastore dX12_rolls_154 (rfl) (Nat.le_of_ble_eq_true rfl) o11 ?_
          refine zi_iinc (v := x3 + 1) (ls' := [some (.ref 56), some (.int x1), some (.int x2), some (.int (x3 + 1)), some (.int 0)]) dX12_rolls_155 rfl (by decide) rfl rfl ?_
          refine zi_goto (tgt := 65) dX12_rolls_158 (by decide) ?_
          refine zi_mask [true, true, true, true, false] rfl ?_
          exact K
        · have K := K.2 c8
          refine zi_aload_n dX12_rolls_135 rfl rfl ?_
          refine zi_iload_n dX12_rolls_136 rfl rfl ?_
          refine zi_iconst (v := 2) dX12_rolls_137 (by decide) ?_
          refine zi_callV (N := mX12_steps) (av := [.int x3, .int 2]) (st := [.ref 71]) (R1 := (some (.int (zlb ((zup I 71 (zx x3) ((I 71 (zx x3)) + (I 70 (zx x3)))) 57 1) x3 2)), zh b (zup I 71 (zx x3) ((I 71 (zx x3)) + (I 70 (zx x3)))) L)) dX12_rolls_138 okX12_steps u_1017 u_1019 s_36 zc12 (rfl) (Nat.le_of_ble_eq_true rfl) arX12_steps rfl (Nat.le_of_ble_eq_true rfl) (kX12_steps _ _) hR ?_
          show zA G (d + 1) mX12_rolls 141 [some (.ref 56), some (.int x1), some (.int x2), some (.int x3), some (.int 0)] [.int (zlb ((zup I 71 (zx x3) ((I 71 (zx x3)) + (I 70 (zx x3)))) 57 1) x3 2), .ref 71] (zh b (zup I 71 (zx x3) ((I 71 (zx x3)) + (I 70 (zx x3)))) L) R
          refine zi_goto (tgt := 145) dX12_rolls_141 (by decide) ?_
          refine zi_dup2 dX12_rolls_145 rfl rfl ?_
          have o13 := K.1
          have K := K.2
          refine zg_iaload dX12_rolls_146 (rfl) (Nat.le_of_ble_eq_true rfl) o13 ?_
          refine zi_aload_n dX12_rolls_147 rfl rfl ?_
          refine zg_getF (k := 20) (v := .ref 70) dX12_rolls_148 zc12 rfl (Nat.le_of_ble_eq_true rfl) (Nat.le_of_ble_eq_true rfl) u_826 rfl (rfl) ?_
          refine zi_iload_n dX12_rolls_151 rfl rfl ?_
          have o14 := K.1
          have K := K.2
          refine zg_iaload dX12_rolls_152 (rfl) (Nat.le_of_ble_eq_true rfl) o14 ?_
          refine zi_iadd dX12_rolls_153 ?_
          have o15 := K.1
          have K := K.2
          refine zi_name (fun I16 hI16 => ?_)
          have K := K I16 hI16
          refine zg_iastore dX12_rolls_154 (rfl) (Nat.le_of_ble_eq_true rfl) o15 ?_
          refine zi_iinc (v := x3 + 1) (ls' := [some (.ref 56), some (.int x1), some (.int x2), some (.int (x3 + 1)), some (.int 0)]) dX12_rolls_155 rfl (by decide) rfl rfl ?_
          refine zi_goto (tgt := 65) dX12_rolls_158 (by decide) ?_
          refine zi_mask [true, true, true, true, false] rfl ?_
          exact K
      · have K := K.2 c4
        refine zi_aload_n dX12_rolls_106 rfl rfl ?_
        refine zi_iload_n dX12_rolls_107 rfl rfl ?_
        refine zi_iconst (v := 1) dX12_rolls_108 (by decide) ?_
        refine zi_callV (N := mX12_steps) (av := [.int x3, .int 1]) (st := [.ref 71]) (R1 := (some (.int (zlb (I 57 1) x3 1)), zh b I L)) dX12_rolls_109 okX12_steps u_1017 u_1019 s_36 zc12 (rfl) (Nat.le_of_ble_eq_true rfl) arX12_steps rfl (Nat.le_of_ble_eq_true rfl) (kX12_steps _ _) hR ?_
        show zA G (d + 1) mX12_rolls 112 [some (.ref 56), some (.int x1), some (.int x2), some (.int x3), some (.int 0)] [.int (zlb (I 57 1) x3 1), .ref 71] (zh b I L) R
        refine zi_goto (tgt := 116) dX12_rolls_112 (by decide) ?_
        refine zi_dup2 dX12_rolls_116 rfl rfl ?_
        have o17 := K.1
        have K := K.2
        refine zg_iaload dX12_rolls_117 (rfl) (Nat.le_of_ble_eq_true rfl) o17 ?_
        refine zi_aload_n dX12_rolls_118 rfl rfl ?_
        refine zg_getF (k := 20) (v := .ref 70) dX12_rolls_119 zc12 rfl (Nat.le_of_ble_eq_true rfl) (Nat.le_of_ble_eq_true rfl) u_826 rfl (rfl) ?_
        refine zi_iload_n dX12_rolls_122 rfl rfl ?_
        have o18 := K.1
        have K := K.2
        refine zg_iaload dX12_rolls_123 (rfl) (Nat.le_of_ble_eq_true rfl) o18 ?_
        refine zi_iadd dX12_rolls_124 ?_
        have o19 := K.1
        have K := K.2
        refine zg_iastore dX12_rolls_125 (rfl) (Nat.le_of_ble_eq_true rfl) o19 ?_
        refine zi_aload_n dX12_rolls_126 rfl rfl ?_
        refine zg_getF (k := 21) (v := .ref 71) dX12_rolls_127 zc12 rfl (Nat.le_of_ble_eq_true rfl) (Nat.le_of_ble_eq_true rfl) u_827 rfl (rfl) ?_
        refine zi_iload dX12_rolls_130 rfl ?_
        refine zi_if_eq (tgt := 144) dX12_rolls_132 (by decide) (fun c20 => ?_) (fun c20 => ?_)
        · have K := K.1 c20
          refine zi_iload_n dX12_rolls_144 rfl rfl ?_
          refine zi_dup2 dX12_rolls_145 rfl rfl ?_
          have o21 := K.1
          have K := K.2
          refine zg_iaload dX12_rolls_146 (rfl) (Nat.le_of_ble_eq_true rfl) o21 ?_
          refine zi_aload_n dX12_rolls_147 rfl rfl ?_
          refine zg_getF (k := 20) (v := .ref 70) dX12_rolls_148 zc12 rfl (Nat.le_of_ble_eq_true rfl) (Nat.le_of_ble_eq_true rfl) u_826 rfl (rfl) ?_
          refine zi_iload_n dX12_rolls_151 rfl rfl ?_
          have o22 := K.1
          have K := K.2
          refine zg_iaload dX12_rolls_152 (rfl) (Nat.le_of_ble_eq_true rfl) o22 ?_
          refine zi_iadd dX12_rolls_153 ?_
          have o23 := K.1
          have K := K.2
          refine zi_name (fun I24 hI24 => ?_)
          have K := K I24 hI24
          refine zg_iastore dX12_rolls_154 (rfl) (Nat.le_of_ble_eq_true rfl) o23 ?_
          refine zi_iinc (v := x3 + 1) (ls' := [some (.ref 56), some (.int x1), some (.int x2), some (.int (x3 + 1)), some (.int 0)]) dX12_rolls_155 rfl (by decide) rfl rfl ?_
          refine zi_goto (tgt := 65) dX12_rolls_158 (by decide) ?_
          refine zi_mask [true, true, true, true, false] rfl ?_
          exact K
        · have K := K.2 c20
          refine zi_aload_n dX12_rolls_135 rfl rfl ?_
          refine zi_iload_n dX12_rolls_136 rfl rfl ?_
          refine zi_iconst (v := 2) dX12_rolls_137 (by decide) ?_
          refine zi_callV (N := mX12_steps) (av := [.int x3, .int 2]) (st := [.ref 71]) (R1 := (some (.int (zlb ((zup I 71 (zx (zlb (I 57 1) x3 1)) ((I 71 (zx (zlb (I 57 1) x3 1))) + (I 70 (zx x3)))) 57 1) x3 2)), zh b (zup I 71 (zx (zlb (I 57 1) x3 1)) ((I 71 (zx (zlb (I 57 1) x3 1))) + (I 70 (zx x3)))) L)) dX12_rolls_138 okX12_steps u_1017 u_1019 s_36 zc12 (rfl) (Nat.le_of_ble_eq_true rfl) arX12_steps rfl (Nat.le_of_ble_eq_true rfl) (kX12_steps _ _) hR ?_
          show zA G (d + 1) mX12_rolls 141 [some (.ref 56), some (.int x1), some (.int x2), some (.int x3), some (.int 0)] [.int (zlb ((zup I 71 (zx (zlb (I 57 1) x3 1)) ((I 71 (zx (zlb (I 57 1) x3 1))) + (I 70 (zx x3)))) 57 1) x3 2), .ref 71] (zh b (zup I 71 (zx (zlb (I 57 1) x3 1)) ((I 71 (zx (zlb (I 57 1) x3 1))) + (I 70 (zx x3)))) L) R
          refine zi_goto (tgt := 145) dX12_rolls_141 (by decide) ?_
          refine zi_dup2 dX12_rolls_145 rfl rfl ?_
          have o25 := K.1
          have K := K.2
          refine zg_iaload dX12_rolls_146 (rfl) (Nat.le_of_ble_eq_true rfl) o25 ?_
          refine zi_aload_n dX12_rolls_147 rfl rfl ?_
          refine zg_getF (k := 20) (v := .ref 70) dX12_rolls_148 zc12 rfl (Nat.le_of_ble_eq_true rfl) (Nat.le_of_ble_eq_true rfl) u_826 rfl (rfl) ?_
          refine zi_iload_n dX12_rolls_151 rfl rfl ?_
          have o26 := K.1
          have K := K.2
          refine zg_iaload dX12_rolls_152 (rfl) (Nat.le_of_ble_eq_true rfl) o26 ?_
          refine zi_iadd dX12_rolls_153 ?_
          have o27 := K.1
          have K := K.2
          refine zi_name (fun I28 hI28 => ?_)
          have K := K I28 hI28
          refine zg_iastore dX12_rolls_154 (rfl) (Nat.le_of_ble_eq_true rfl) o27 ?_
          refine zi_iinc (v := x3 + 1) (ls' := [some (.ref 56), some (.int x1), some (.int x2), some (.int (x3 + 1)), some (.int 0)]) dX12_rolls_155 rfl (by decide) rfl rfl ?_
          refine zi_goto (tgt := 65) dX12_rolls_158 (by decide) ?_
          refine zi_mask [true, true, true, true, false] rfl ?_
          exact K
    · have K := K.2 c3
      refine zi_iconst (v := 1) dX12_rolls_90 (by decide) ?_
      refine zi_goto (tgt := 95) dX12_rolls_91 (by decide) ?_
      refine zi_istore (ls' := [some (.ref 56), some (.int x1), some (.int x2), some (.int x3), some (.int 1)]) dX12_rolls_95 (by decide) rfl ?_
      refine zi_aload_n dX12_rolls_97 rfl rfl ?_
      refine zg_getF (k := 21) (v := .ref 71) dX12_rolls_98 zc12 rfl (Nat.le_of_ble_eq_true rfl) (Nat.le_of_ble_eq_true rfl) u_827 rfl (rfl) ?_
      refine zi_iload dX12_rolls_101 rfl ?_
      refine zi_if_eq (tgt := 115) dX12_rolls_103 (by decide) (fun c29 => ?_) (fun c29 => ?_)
      · have K := K.1 c29
        refine zi_iload_n dX12_rolls_115 rfl rfl ?_
        refine zi_dup2 dX12_rolls_116 rfl rfl ?_
        have o30 := K.1
        have K := K.2
        refine zg_iaload dX12_rolls_117 (rfl) (Nat.le_of_ble_eq_true rfl) o30 ?_
        refine zi_aload_n dX12_rolls_118 rfl rfl ?_
        refine zg_getF (k := 20) (v := .ref 70) dX12_rolls_119 zc12 rfl (Nat.le_of_ble_eq_true rfl) (Nat.le_of_ble_eq_true rfl) u_826 rfl (rfl) ?_
        refine zi_iload_n dX12_rolls_122 rfl rfl ?_
        have o31 := K.1
        have K := K.2
        refine zg_iaload dX12_rolls_123 (rfl) (Nat.le_of_ble_eq_true rfl) o31 ?_
        refine zi_iadd dX12_rolls_124 ?_
        have o32 := K.1
        have K := K.2
        refine zg_iastore dX12_rolls_125 (rfl) (Nat.le_of_ble_eq_true rfl) o32 ?_
        refine zi_aload_n dX12_rolls_126 rfl rfl ?_
        refine zg_getF (k := 21) (v := .ref 71) dX12_rolls_127 zc12 rfl (Nat.le_of_ble_eq_true rfl) (Nat.le_of_ble_eq_true rfl) u_827 rfl (rfl) ?_
        refine zi_iload dX12_rolls_130 rfl ?_
        refine zi_if_eq (tgt := 144) dX12_rolls_132 (by decide) (fun c33 => ?_) (fun c33 => ?_)
        · have K := K.1 c33
          refine zi_iload_n dX12_rolls_144 rfl rfl ?_
          refine zi_dup2 dX12_rolls_145 rfl rfl ?_
          have o34 := K.1
          have K := K.2
          refine zg_iaload dX12_rolls_146 (rfl) (Nat.le_of_ble_eq_true rfl) o34 ?_
          refine zi_aload_n dX12_rolls_147 rfl rfl ?_
          refine zg_getF (k := 20) (v := .ref 70) dX12_rolls_148 zc12 rfl (Nat.le_of_ble_eq_true rfl) (Nat.le_of_ble_eq_true rfl) u_826 rfl (rfl) ?_
          refine zi_iload_n dX12_rolls_151 rfl rfl ?_
          have o35 := K.1
          have K := K.2
          refine zg_iaload dX12_rolls_152 (rfl) (Nat.le_of_ble_eq_true rfl) o35 ?_
          refine zi_iadd dX12_rolls_153 ?_
          have o36 := K.1
          have K := K.2
          refine zi_name (fun I37 hI37 => ?_)
          have K := K I37 hI37
          refine zg_iastore dX12_rolls_154 (rfl) (Nat.le_of_ble_eq_true rfl) o36 ?_
          refine zi_iinc (v := x3 + 1) (ls' := [some (.ref 56), some (.int x1), some (.int x2), some (.int (x3 + 1)), some (.int 1)]) dX12_rolls_155 rfl (by decide) rfl rfl ?_
          refine zi_goto (tgt := 65) dX12_rolls_158 (by decide) ?_
          refine zi_mask [true, true, true, true, false] rfl ?_
          exact K
        · have K := K.2 c33
          refine zi_aload_n dX12_rolls_135 rfl rfl ?_
          refine zi_iload_n dX12_rolls_136 rfl rfl ?_
          refine zi_iconst (v := 2) dX12_rolls_137 (by decide) ?_
          refine zi_callV (N := mX12_steps) (av := [.int x3, .int 2]) (st := [.ref 71]) (R1 := (some (.int (zlb ((zup I 71 (zx x3) ((I 71 (zx x3)) + (I 70 (zx x3)))) 57 1) x3 2)), zh b (zup I 71 (zx x3) ((I 71 (zx x3)) + (I 70 (zx x3)))) L)) dX12_rolls_138 okX12_steps u_1017 u_1019 s_36 zc12 (rfl) (Nat.le_of_ble_eq_true rfl) arX12_steps rfl (Nat.le_of_ble_eq_true rfl) (kX12_steps _ _) hR ?_
          show zA G (d + 1) mX12_rolls 141 [some (.ref 56), some (.int x1), some (.int x2), some (.int x3), some (.int 1)] [.int (zlb ((zup I 71 (zx x3) ((I 71 (zx x3)) + (I 70 (zx x3)))) 57 1) x3 2), .ref 71] (zh b (zup I 71 (zx x3) ((I 71 (zx x3)) + (I 70 (zx x3)))) L) R
          refine zi_goto (tgt := 145) dX12_rolls_141 (by decide) ?_
          refine zi_dup2 dX12_rolls_145 rfl rfl ?_
          have o38 := K.1
          have K := K.2
          refine zg_iaload dX12_rolls_146 (rfl) (Nat.le_of_ble_eq_true rfl) o38 ?_
          refine zi_aload_n dX12_rolls_147 rfl rfl ?_
          refine zg_getF (k := 20) (v := .ref 70) dX12_rolls_148 zc12 rfl (Nat.le_of_ble_eq_true rfl) (Nat.le_of_ble_eq_true rfl) u_826 rfl (rfl) ?_
          refine zi_iload_n dX12_rolls_151 rfl rfl ?_
          have o39 := K.1
          have K := K.2
          refine zg_iaload dX12_rolls_152 (rfl) (Nat.le_of_ble_eq_true rfl) o39 ?_
          refine zi_iadd dX12_rolls_153 ?_
          have o40 := K.1
          have K := K.2
          refine zi_name (fun I41 hI41 => ?_)
          have K := K I41 hI41
          refine zg_iastore dX12_rolls_154 (rfl) (Nat.le_of_ble_eq_true rfl) o40 ?_
          refine zi_iinc (v := x3 + 1) (ls' := [some (.ref 56), some (.int x1), some (.int x2), some (.int (x3 + 1)), some (.int 1)]) dX12_rolls_155 rfl (by decide) rfl rfl ?_
          refine zi_goto (tgt := 65) dX12_rolls_158 (by decide) ?_
          refine zi_mask [true, true, true, true, false] rfl ?_
          exact K
      · have K := K.2 c29
        refine zi_aload_n dX12_rolls_106 rfl rfl ?_
        refine zi_iload_n dX12_rolls_107 rfl rfl ?_
        refine zi_iconst (v := 1) dX12_rolls_108 (by decide) ?_
        refine zi_callV (N := mX12_steps) (av := [.int x3, .int 1]) (st := [.ref 71]) (R1 := (some (.int (zlb (I 57 1) x3 1)), zh b I L)) dX12_rolls_109 okX12_steps u_1017 u_1019 s_36 zc12 (rfl) (Nat.le_of_ble_eq_true rfl) arX12_steps rfl (Nat.le_of_ble_eq_true rfl) (kX12_steps _ _) hR ?_
        show zA G (d + 1) mX12_rolls 112 [some (.ref 56), some (.int x1), some (.int x2), some (.int x3), some (.int 1)] [.int (zlb (I 57 1) x3 1), .ref 71] (zh b I L) R
        refine zi_goto (tgt := 116) dX12_rolls_112 (by decide) ?_
        refine zi_dup2 dX12_rolls_116 rfl rfl ?_
        have o42 := K.1
        have K := K.2
        refine zg_iaload dX12_rolls_117 (rfl) (Nat.le_of_ble_eq_true rfl) o42 ?_
        refine zi_aload_n dX12_rolls_118 rfl rfl ?_
        refine zg_getF (k := 20) (v := .ref 70) dX12_rolls_119 zc12 rfl (Nat.le_of_ble_eq_true rfl) (Nat.le_of_ble_eq_true rfl) u_826 rfl (rfl) ?_
        refine zi_iload_n dX12_rolls_122 rfl rfl ?_
        have o43 := K.1
        have K := K.2
        refine zg_iaload dX12_rolls_123 (rfl) (Nat.le_of_ble_eq_true rfl) o43 ?_
        refine zi_iadd dX12_rolls_124 ?_
        have o44 := K.1
        have K := K.2
        refine zg_iastore dX12_rolls_125 (rfl) (Nat.le_of_ble_eq_true rfl) o44 ?_
        refine zi_aload_n dX12_rolls_126 rfl rfl ?_
        refine zg_getF (k := 21) (v := .ref 71) dX12_rolls_127 zc12 rfl (Nat.le_of_ble_eq_true rfl) (Nat.le_of_ble_eq_true rfl) u_827 rfl (rfl) ?_
        refine zi_iload dX12_rolls_130 rfl ?_
        refine zi_if_eq (tgt := 144) dX12_rolls_132 (by decide) (fun c45 => ?_) (fun c45 => ?_)
        · have K := K.1 c45
          refine zi_iload_n dX12_rolls_144 rfl rfl ?_
          refine zi_dup2 dX12_rolls_145 rfl rfl ?_
          have o46 := K.1
          have K := K.2
          refine zg_iaload dX12_rolls_146 (rfl) (Nat.le_of_ble_eq_true rfl) o46 ?_
          refine zi_aload_n dX12_rolls_147 rfl rfl ?_
          refine zg_getF (k := 20) (v := .ref 70) dX12_rolls_148 zc12 rfl (Nat.le_of_ble_eq_true rfl) (Nat.le_of_ble_eq_true rfl) u_826 rfl (rfl) ?_
          refine zi_iload_n dX12_rolls_151 rfl rfl ?_
          have o47 := K.1
          have K := K.2
          refine zg_iaload dX12_rolls_152 (rfl) (Nat.le_of_ble_eq_true rfl) o47 ?_
          refine zi_iadd dX12_rolls_153 ?_
          have o48 := K.1
          have K := K.2
          refine zi_name (fun I49 hI49 => ?_)
          have K := K I49 hI49
          refine zg_iastore dX12_rolls_154 (rfl) (Nat.le_of_ble_eq_true rfl) o48 ?_
          refine zi_iinc (v := x3 + 1) (ls' := [some (.ref 56), some (.int x1), some (.int x2), some (.int (x3 + 1)), some (.int 1)]) dX12_rolls_155 rfl (by decide) rfl rfl ?_
          refine zi_goto (tgt := 65) dX12_rolls_158 (by decide) ?_
          refine zi_mask [true, true, true, true, false] rfl ?_
          exact K
        · have K := K.2 c45
          refine zi_aload_n dX12_rolls_135 rfl rfl ?_
          refine zi_iload_n dX12_rolls_136 rfl rfl ?_
          refine zi_iconst (v := 2) dX12_rolls_137 (by decide) ?_
          refine zi_callV (N := mX12_steps) (av := [.int x3, .int 2]) (st := [.ref 71]) (R1 := (some (.int (zlb ((zup I 71 (zx (zlb (I 57 1) x3 1)) ((I 71 (zx (zlb (I 57 1) x3 1))) + (I 70 (zx x3)))) 57 1) x3 2)), zh b (zup I 71 (zx (zlb (I 57 1) x3 1)) ((I 71 (zx (zlb (I 57 1) x3 1))) + (I 70 (zx x3)))) L)) dX12_rolls_138 okX12_steps u_1017 u_1019 s_36 zc12 (rfl) (Nat.le_of_ble_eq_true rfl) arX12_steps rfl (Nat.le_of_ble_eq_true rfl) (kX12_steps _ _) hR ?_
          show zA G (d + 1) mX12_rolls 141 [some (.ref 56), some (.int x1), some (.int x2), some (.int x3), some (.int 1)] [.int (zlb ((zup I 71 (zx (zlb (I 57 1) x3 1)) ((I 71 (zx (zlb (I 57 1) x3 1))) + (I 70 (zx x3)))) 57 1) x3 2), .ref 71] (zh b (zup I 71 (zx (zlb (I 57 1) x3 1)) ((I 71 (zx (zlb (I 57 1) x3 1))) + (I 70 (zx x3)))) L) R
          refine zi_goto (tgt := 145) dX12_rolls_141 (by decide) ?_
          refine zi_dup2 dX12_rolls_145 rfl rfl ?_
          have o50 := K.1
          have K := K.2
          refine zg_iaload dX12_rolls_146 (rfl) (Nat.le_of_ble_eq_true rfl) o50 ?_
          refine zi_aload_n dX12_rolls_147 rfl rfl ?_
          refine zg_getF (k := 20) (v := .ref 70) dX12_rolls_148 zc12 rfl (Nat.le_of_ble_eq_true rfl) (Nat.le_of_ble_eq_true rfl) u_826 rfl (rfl) ?_
          refine zi_iload_n dX12_rolls_151 rfl rfl ?_
          have o51 := K.1
          have K := K.2
          refine zg_iaload dX12_rolls_152 (rfl) (Nat.le_of_ble_eq_true rfl) o51 ?_
          refine zi_iadd dX12_rolls_153 ?_
          have o52 := K.1
          have K := K.2
          refine zi_name (fun I53 hI53 => ?_)
          have K := K I53 hI53
          refine zg_iastore dX12_rolls_154 (rfl) (Nat.le_of_ble_eq_true rfl) o52 ?_
          refine zi_iinc (v := x3 + 1) (ls' := [some (.ref 56), some (.int x1), some (.int x2), some (.int (x3 + 1)), some (.int 1)]) dX12_rolls_155 rfl (by decide) rfl rfl ?_
          refine zi_goto (tgt := 65) dX12_rolls_158 (by decide) ?_
          refine zi_mask [true, true, true, true, false] rfl ?_
          exact K
set_option maxRecDepth 100000 in
theorem tX12_rolls_163 {G : zG} {d b : Nat} {I : Nat → Nat → Int32} {L : Nat → Nat → Int64} {R : zR} {x1 : Int32} {x2 : Int32} {x3 : Int32}
    (K : ((6 ≤ x3 → zA G (d + 1) mX12_rolls 32 [some (.ref 56), some (.int x1), some (.int (x2 + 1)), none, none] [] (zh b I L) R) ∧ (¬ 6 ≤ x3 → (vp_in x3 6 ∧ (vp_in x3 6 ∧ zA G (d + 1) mX12_rolls 163 [some (.ref 56), some (.int x1), some (.int x2), some (.int (x3 + 1)), none] [] (zh b (zup I 70 (zx x3) (I 71 (zx x3))) L) R))))) :
    zA G (d + 1) mX12_rolls 163 [some (.ref 56), some (.int x1), some (.int x2), some (.int x3), none] [] (zh b I L) R := by
  refine zi_iload_n dX12_rolls_163 rfl rfl ?_
  refine zi_bipush (v := 6) dX12_rolls_164 (by decide) ?_
  refine zi_icmp_ge (tgt := 187) dX12_rolls_166 (by decide) (fun c1 => ?_) (fun c1 => ?_)
  · have K := K.1 c1
    refine zi_iinc (v := x2 + 1) (ls' := [some (.ref 56), some (.int x1), some (.int (x2 + 1)), some (.int x3), none]) dX12_rolls_187 rfl (by decide) rfl rfl ?_
    refine zi_goto (tgt := 32) dX12_rolls_190 (by decide) ?_
    refine zi_mask [true, true, true, false, true] rfl ?_
    exact K
  · have K := K.2 c1
    refine zi_aload_n dX12_rolls_169 rfl rfl ?_
    refine zg_getF (k := 20) (v := .ref 70) dX12_rolls_170 zc12 rfl (Nat.le_of_ble_eq_true rfl) (Nat.le_of_ble_eq_true rfl) u_826 rfl (rfl) ?_
    refine zi_iload_n dX12_rolls_173 rfl rfl ?_
    refine zi_aload_n dX12_rolls_174 rfl rfl ?_
    refine zg_getF (k := 21) (v := .ref 71) dX12_rolls_175 zc12 rfl (Nat.le_of_ble_eq_true rfl) (Nat.le_of_ble_eq_true rfl) u_827 rfl (rfl) ?_
    refine zi_iload_n dX12_rolls_178 rfl rfl ?_
    have o2 := K.1
    have K := K.2
    refine zg_iaload dX12_rolls_179 (rfl) (Nat.le_of_ble_eq_true rfl) o2 ?_
    have o3 := K.1
    have K := K.2
    refine zg_iastore dX12_rolls_180 (rfl) (Nat.le_of_ble_eq_true rfl) o3 ?_
    refine zi_iinc (v := x3 + 1) (ls' := [some (.ref 56), some (.int x1), some (.int x2), some (.int (x3 + 1)), none]) dX12_rolls_181 rfl (by decide) rfl rfl ?_
    refine zi_goto (tgt := 163) dX12_rolls_184 (by decide) ?_
    exact K
set_option maxRecDepth 100000 in
theorem tX12_cheese_0 {G : zG} {d b : Nat} {I : Nat → Nat → Int32} {L : Nat → Nat → Int64} {R : zR} {x1 : Int32} {x2 : Int32} (hR : zR0 R)
    (K : ((¬ (0 ≤ x1.toInt64 ∧ x1.toInt64 ≤ (I 57 1 - 1).toInt64) → (∃ (r2 : Int32) (I3 : Nat → Nat → Int32), zCall (d + 1) mX12_refuse [.ref 56, .int (-2)] (zh b I L) (some (.int r2), zh b I3 L) ∧ R = (some (.int r2), zh b I3 L))) ∧ ((0 ≤ x1.toInt64 ∧ x1.toInt64 ≤ (I 57 1 - 1).toInt64) → (((0 ≤ x2.toInt64 ∧ x2.toInt64 ≤ (I 57 1 - 1).toInt64) → (∃ (I6 : Nat → Nat → Int32), zCall (d + 1) mX12_rolls [.ref 56, .int x1] (zh b I L) (none, zh b I6 L) ∧ (vp_in x2 6 ∧ (∃ (r9 : Int32) (L10 : Nat → Nat → Int64), zCall (d + 1) mX12_fraction [.ref 56, .long ((I6 70 (zx x2)).toInt64), .long (1 <<< ((I6 57 0).toInt64 &&& 63))] (zh b I6 L) (some (.int r9), zh b I6 L10) ∧ R = (some (.int r9), zh b I6 L10))))) ∧ (¬ (0 ≤ x2.toInt64 ∧ x2.toInt64 ≤ (I 57 1 - 1).toInt64) → (∃ (r12 : Int32) (I13 : Nat → Nat → Int32), zCall (d + 1) mX12_refuse [.ref 56, .int (-2)] (zh b I L) (some (.int r12), zh b I13 L) ∧ R = (some (.int r12), zh b I13 L))))))) :
    zA G (d + 2) mX12_cheese 0 [some (.ref 56), some (.int x1), some (.int x2)] [] (zh b I L) R := by
  refine zi_aload_n dX12_cheese_0 rfl rfl ?_
  refine zi_iload_n dX12_cheese_1 rfl rfl ?_
  refine zi_callV (N := mX12_isLane) (av := [.int x1]) (st := []) (R1 := (some (.int (zb (0 ≤ x1.toInt64 ∧ x1.toInt64 ≤ (I 57 1 - 1).toInt64))), zh b I L)) dX12_cheese_2 okX12_isLane u_1083 u_1085 s_44 zc12 (rfl) (Nat.le_of_ble_eq_true rfl) arX12_isLane rfl (Nat.le_of_ble_eq_true rfl) (kX12_isLane _) hR ?_
  show zA G (d + 2) mX12_cheese 5 [some (.ref 56), some (.int x1), some (.int x2)] [.int (zb (0 ≤ x1.toInt64 ∧ x1.toInt64 ≤ (I 57 1 - 1).toInt64))] (zh b I L) R
  refine zi_if_eq (tgt := 16) dX12_cheese_5 (by decide) (fun c1 => ?_) (fun c1 => ?_)
  · have K := K.1 (zb_0 c1)
    refine zi_aload_n dX12_cheese_16 rfl rfl ?_
    refine zi_bipush (v := (-2)) dX12_cheese_17 (by decide) ?_
    obtain ⟨r2, I3, h4, K⟩ := K
    refine zi_callV (N := mX12_refuse) (av := [.int (-2)]) (st := []) (R1 := (some (.int r2), zh b I3 L)) dX12_cheese_19 okX12_refuse u_886 u_888 s_23 zc12 (rfl) (Nat.le_of_ble_eq_true rfl) arX12_refuse rfl (Nat.le_of_ble_eq_true rfl) (h4) hR ?_
    show zA G (d + 2) mX12_cheese 22 [some (.ref 56), some (.int x1), some (.int x2)] [.int r2] (zh b I3 L) R
    subst K
    exact zi_ireturn dX12_cheese_22 rfl rfl
  · have K := K.2 (zb_1 c1)
    refine zi_aload_n dX12_cheese_8 rfl rfl ?_
    refine zi_iload_n dX12_cheese_9 rfl rfl ?_
    refine zi_callV (N := mX12_isLane) (av := [.int x2]) (st := []) (R1 := (some (.int (zb (0 ≤ x2.toInt64 ∧ x2.toInt64 ≤ (I 57 1 - 1).toInt64))), zh b I L)) dX12_cheese_10 okX12_isLane u_1083 u_1085 s_44 zc12 (rfl) (Nat.le_of_ble_eq_true rfl) arX12_isLane rfl (Nat.le_of_ble_eq_true rfl) (kX12_isLane _) hR ?_
    show zA G (d + 2) mX12_cheese 13 [some (.ref 56), some (.int x1), some (.int x2)] [.int (zb (0 ≤ x2.toInt64 ∧ x2.toInt64 ≤ (I 57 1 - 1).toInt64))] (zh b I L) R
    refine zi_if_ne (tgt := 23) dX12_cheese_13 (by decide) (fun c5 => ?_) (fun c5 => ?_)
    · have K := K.1 (zb_1 c5)
      refine zi_aload_n dX12_cheese_23 rfl rfl ?_
      refine zi_iload_n dX12_cheese_24 rfl rfl ?_
      obtain ⟨I6, h7, K⟩ := K
      refine zi_callV (N := mX12_rolls) (av := [.int x1]) (st := []) (R1 := (none, zh b I6 L)) dX12_cheese_25 okX12_rolls u_1087 u_1089 s_45 zc12 (rfl) (Nat.le_of_ble_eq_true rfl) arX12_rolls rfl (Nat.le_of_ble_eq_true rfl) (h7) hR ?_
      show zA G (d + 2) mX12_cheese 28 [some (.ref 56), some (.int x1), some (.int x2)] [] (zh b I6 L) R
      refine zi_aload_n dX12_cheese_28 rfl rfl ?_
      refine zi_aload_n dX12_cheese_29 rfl rfl ?_
      refine zg_getF (k := 20) (v := .ref 70) dX12_cheese_30 zc12 rfl (Nat.le_of_ble_eq_true rfl) (Nat.le_of_ble_eq_true rfl) u_826 rfl (rfl) ?_
      refine zi_iload_n dX12_cheese_33 rfl rfl ?_
      have o8 := K.1
      have K := K.2
      refine zg_iaload dX12_cheese_34 (rfl) (Nat.le_of_ble_eq_true rfl) o8 ?_
      refine zi_i2l dX12_cheese_35 ?_
      refine zi_lconst (v := 1) dX12_cheese_36 (by decide) ?_
      refine zi_aload_n dX12_cheese_37 rfl rfl ?_
      refine zg_getF (k := 0) (v := .ref 57) dX12_cheese_38 zc12 rfl (Nat.le_of_ble_eq_true rfl) (Nat.le_of_ble_eq_true rfl) u_806 rfl (rfl) ?_
      refine zi_iconst (v := 0) dX12_cheese_41 (by decide) ?_
      refine zg_iaload dX12_cheese_42 (rfl) (Nat.le_of_ble_eq_true rfl) (zvi (by decide)) ?_
      show zA G (d + 2) mX12_cheese 43 [some (.ref 56), some (.int x1), some (.int x2)] [.int (I6 57 0), .long 1, .long ((I6 70 (zx x2)).toInt64), .ref 56] (zh b I6 L) R
      refine zi_lshl dX12_cheese_43 ?_
      obtain ⟨r9, L10, h11, K⟩ := K
      refine zi_callV (N := mX12_fraction) (av := [.long ((I6 70 (zx x2)).toInt64), .long (1 <<< ((I6 57 0).toInt64 &&& 63))]) (st := []) (R1 := (some (.int r9), zh b I6 L10)) dX12_cheese_44 okX12_fraction u_1091 u_1093 s_46 zc12 (rfl) (Nat.le_of_ble_eq_true rfl) arX12_fraction rfl (Nat.le_of_ble_eq_true rfl) (h11) hR ?_
      show zA G (d + 2) mX12_cheese 47 [some (.ref 56), some (.int x1), some (.int x2)] [.int r9] (zh b I6 L10) R
      subst K
      exact zi_ireturn dX12_cheese_47 rfl rfl
    · have K := K.2 (zb_0 c5)
      refine zi_aload_n dX12_cheese_16 rfl rfl ?_
      refine zi_bipush (v := (-2)) dX12_cheese_17 (by decide) ?_
      obtain ⟨r12, I13, h14, K⟩ := K
      refine zi_callV (N := mX12_refuse) (av := [.int (-2)]) (st := []) (R1 := (some (.int r12), zh b I13 L)) dX12_cheese_19 okX12_refuse u_886 u_888 s_23 zc12 (rfl) (Nat.le_of_ble_eq_true rfl) arX12_refuse rfl (Nat.le_of_ble_eq_true rfl) (h14) hR ?_
      show zA G (d + 2) mX12_cheese 22 [some (.ref 56), some (.int x1), some (.int x2)] [.int r12] (zh b I13 L) R
      subst K
      exact zi_ireturn dX12_cheese_22 rfl rfl
set_option maxRecDepth 100000 in
theorem tX12_fence_0 {G : zG} {d b : Nat} {I : Nat → Nat → Int32} {L : Nat → Nat → Int64} {R : zR} {x1 : Int32} {x2 : Int32} (hR : zR0 R)
    (K : ((¬ (0 ≤ x1.toInt64 ∧ x1.toInt64 ≤ (I 57 1 - 1).toInt64) → (∃ (r2 : Int32) (I3 : Nat → Nat → Int32), zCall (d + 1) mX12_refuse [.ref 56, .int (-2)] (zh b I L) (some (.int r2), zh b I3 L) ∧ R = (some (.int r2), zh b I3 L))) ∧ ((0 ≤ x1.toInt64 ∧ x1.toInt64 ≤ (I 57 1 - 1).toInt64) → (((1 ≤ x2.toInt64 ∧ x2.toInt64 ≤ 100) → (∃ (I6 : Nat → Nat → Int32), zCall (d + 1) mX12_rolls [.ref 56, .int x1] (zh b I L) (none, zh b I6 L) ∧ zA G (d + 2) mX12_fence 34 [some (.ref 56), some (.int x1), some (.int x2), some (.int 1), none, none, none] [] (zh b I6 L) R)) ∧ (¬ (1 ≤ x2.toInt64 ∧ x2.toInt64 ≤ 100) → (∃ (r8 : Int32) (I9 : Nat → Nat → Int32), zCall (d + 1) mX12_refuse [.ref 56, .int (-2)] (zh b I L) (some (.int r8), zh b I9 L) ∧ R = (some (.int r8), zh b I9 L))))))) :
    zA G (d + 2) mX12_fence 0 [some (.ref 56), some (.int x1), some (.int x2), none, none, none, none] [] (zh b I L) R := by
  refine zi_aload_n dX12_fence_0 rfl rfl ?_
  refine zi_iload_n dX12_fence_1 rfl rfl ?_
  refine zi_callV (N := mX12_isLane) (av := [.int x1]) (st := []) (R1 := (some (.int (zb (0 ≤ x1.toInt64 ∧ x1.toInt64 ≤ (I 57 1 - 1).toInt64))), zh b I L)) dX12_fence_2 okX12_isLane u_1083 u_1085 s_44 zc12 (rfl) (Nat.le_of_ble_eq_true rfl) arX12_isLane rfl (Nat.le_of_ble_eq_true rfl) (kX12_isLane _) hR ?_
  show zA G (d + 2) mX12_fence 5 [some (.ref 56), some (.int x1), some (.int x2), none, none, none, none] [.int (zb (0 ≤ x1.toInt64 ∧ x1.toInt64 ≤ (I 57 1 - 1).toInt64))] (zh b I L) R
  refine zi_if_eq (tgt := 20) dX12_fence_5 (by decide) (fun c1 => ?_) (fun c1 => ?_)
  · have K := K.1 (zb_0 c1)
    refine zi_aload_n dX12_fence_20 rfl rfl ?_
    refine zi_bipush (v := (-2)) dX12_fence_21 (by decide) ?_
    obtain ⟨r2, I3, h4, K⟩ := K
    refine zi_callV (N := mX12_refuse) (av := [.int (-2)]) (st := []) (R1 := (some (.int r2), zh b I3 L)) dX12_fence_23 okX12_refuse u_886 u_888 s_23 zc12 (rfl) (Nat.le_of_ble_eq_true rfl) arX12_refuse rfl (Nat.le_of_ble_eq_true rfl) (h4) hR ?_
    show zA G (d + 2) mX12_fence 26 [some (.ref 56), some (.int x1), some (.int x2), none, none, none, none] [.int r2] (zh b I3 L) R
    subst K
    exact zi_ireturn dX12_fence_26 rfl rfl
  · have K := K.2 (zb_1 c1)
    refine zi_iload_n dX12_fence_8 rfl rfl ?_
    refine zi_i2l dX12_fence_9 ?_
    refine zi_lconst (v := 1) dX12_fence_10 (by decide) ?_
    refine zi_ldc2 dX12_fence_11 u_1099 ?_
    refine zi_callS (N := mX12_in) (av := [.long x2.toInt64, .long 1, .long 100]) (st := []) (R1 := (some (.int (zb (1 ≤ x2.toInt64 ∧ x2.toInt64 ≤ 100))), zh b I L)) dX12_fence_14 okX12_in u_803 u_804 arX12_in rfl (Nat.le_of_ble_eq_true rfl) (kX12_in _ _ _) hR ?_
    show zA G (d + 2) mX12_fence 17 [some (.ref 56), some (.int x1), some (.int x2), none, none, none, none] [.int (zb (1 ≤ x2.toInt64 ∧ x2.toInt64 ≤ 100))] (zh b I L) R
    refine zi_if_ne (tgt := 27) dX12_fence_17 (by decide) (fun c5 => ?_) (fun c5 => ?_)
    · have K := K.1 (zb_1 c5)
      refine zi_aload_n dX12_fence_27 rfl rfl ?_
      refine zi_iload_n dX12_fence_28 rfl rfl ?_
      obtain ⟨I6, h7, K⟩ := K
      refine zi_callV (N := mX12_rolls) (av := [.int x1]) (st := []) (R1 := (none, zh b I6 L)) dX12_fence_29 okX12_rolls u_1087 u_1089 s_45 zc12 (rfl) (Nat.le_of_ble_eq_true rfl) arX12_rolls rfl (Nat.le_of_ble_eq_true rfl) (h7) hR ?_
      show zA G (d + 2) mX12_fence 32 [some (.ref 56), some (.int x1), some (.int x2), none, none, none, none] [] (zh b I6 L) R
      refine zi_iconst (v := 1) dX12_fence_32 (by decide) ?_
      refine zi_istore_n (ls' := [some (.ref 56), some (.int x1), some (.int x2), some (.int 1), none, none, none]) dX12_fence_33 rfl (by decide) rfl ?_
      exact K
    · have K := K.2 (zb_0 c5)
      refine zi_aload_n dX12_fence_20 rfl rfl ?_
      refine zi_bipush (v := (-2)) dX12_fence_21 (by decide) ?_
      obtain ⟨r8, I9, h10, K⟩ := K
      refine zi_callV (N := mX12_refuse) (av := [.int (-2)]) (st := []) (R1 := (some (.int r8), zh b I9 L)) dX12_fence_23 okX12_refuse u_886 u_888 s_23 zc12 (rfl) (Nat.le_of_ble_eq_true rfl) arX12_refuse rfl (Nat.le_of_ble_eq_true rfl) (h10) hR ?_
      show zA G (d + 2) mX12_fence 26 [some (.ref 56), some (.int x1), some (.int x2), none, none, none, none] [.int r8] (zh b I9 L) R
      subst K
      exact zi_ireturn dX12_fence_26 rfl rfl
set_option maxRecDepth 100000 in
theorem tX12_fence_34 {G : zG} {d b : Nat} {I : Nat → Nat → Int32} {L : Nat → Nat → Int64} {R : zR} {x1 : Int32} {x2 : Int32} {x3 : Int32}
    (K : (((I 57 1) < x3 → R = (some (.int (-1)), zh b I L)) ∧ (¬ (I 57 1) < x3 → zA G (d + 2) mX12_fence 47 [some (.ref 56), some (.int x1), some (.int x2), some (.int x3), some (.int 0), none, none] [] (zh b I L) R))) :
    zA G (d + 2) mX12_fence 34 [some (.ref 56), some (.int x1), some (.int x2), some (.int x3), none, none, none] [] (zh b I L) R := by
  refine zi_iload_n dX12_fence_34 rfl rfl ?_
  refine zi_aload_n dX12_fence_35 rfl rfl ?_
  refine zg_getF (k := 0) (v := .ref 57) dX12_fence_36 zc12 rfl (Nat.le_of_ble_eq_true rfl) (Nat.le_of_ble_eq_true rfl) u_806 rfl (rfl) ?_
  refine zi_iconst (v := 1) dX12_fence_39 (by decide) ?_
  refine zg_iaload dX12_fence_40 (rfl) (Nat.le_of_ble_eq_true rfl) (zvi (by decide)) ?_
  show zA G (d + 2) mX12_fence 41 [some (.ref 56), some (.int x1), some (.int x2), some (.int x3), none, none, none] [.int (I 57 1), .int x3] (zh b I L) R
  refine zi_icmp_gt (tgt := 132) dX12_fence_41 (by decide) (fun c1 => ?_) (fun c1 => ?_)
  · have K := K.1 c1
    refine zi_iconst (v := (-1)) dX12_fence_132 (by decide) ?_
    subst K
    exact zi_ireturn dX12_fence_133 rfl rfl
  · have K := K.2 c1
    refine zi_iconst (v := 0) dX12_fence_44 (by decide) ?_
    refine zi_istore (ls' := [some (.ref 56), some (.int x1), some (.int x2), some (.int x3), some (.int 0), none, none]) dX12_fence_45 (by decide) rfl ?_
    exact K
set_option maxRecDepth 100000 in
theorem tX12_fence_47 {G : zG} {d b : Nat} {I : Nat → Nat → Int32} {L : Nat → Nat → Int64} {R : zR} {x1 : Int32} {x2 : Int32} {x3 : Int32} {x4 : Int32}
    (K : (((I 57 1) < (x4 + x3) → zA G (d + 2) mX12_fence 34 [some (.ref 56), some (.int x1), some (.int x2), some (.int (x3 + 1)), none, none, none] [] (zh b I L) R) ∧ (¬ (I 57 1) < (x4 + x3) → zA G (d + 2) mX12_fence 67 [some (.ref 56), some (.int x1), some (.int x2), some (.int x3), some (.int x4), some (.int 0), some (.int x4)] [] (zh b I L) R))) :
    zA G (d + 2) mX12_fence 47 [some (.ref 56), some (.int x1), some (.int x2), some (.int x3), some (.int x4), none, none] [] (zh b I L) R := by
  refine zi_iload dX12_fence_47 rfl ?_
  refine zi_iload_n dX12_fence_49 rfl rfl ?_
  refine zi_iadd dX12_fence_50 ?_
  refine zi_aload_n dX12_fence_51 rfl rfl ?_
  refine zg_getF (k := 0) (v := .ref 57) dX12_fence_52 zc12 rfl (Nat.le_of_ble_eq_true rfl) (Nat.le_of_ble_eq_true rfl) u_806 rfl (rfl) ?_
  refine zi_iconst (v := 1) dX12_fence_55 (by decide) ?_
  refine zg_iaload dX12_fence_56 (rfl) (Nat.le_of_ble_eq_true rfl) (zvi (by decide)) ?_
  show zA G (d + 2) mX12_fence 57 [some (.ref 56), some (.int x1), some (.int x2), some (.int x3), some (.int x4), none, none] [.int (I 57 1), .int (x4 + x3)] (zh b I L) R
  refine zi_icmp_gt (tgt := 126) dX12_fence_57 (by decide) (fun c1 => ?_) (fun c1 => ?_)
  · have K := K.1 c1
    refine zi_iinc (v := x3 + 1) (ls' := [some (.ref 56), some (.int x1), some (.int x2), some (.int (x3 + 1)), some (.int x4), none, none]) dX12_fence_126 rfl (by decide) rfl rfl ?_
    refine zi_goto (tgt := 34) dX12_fence_129 (by decide) ?_
    refine zi_mask [true, true, true, true, false, true, true] rfl ?_
    exact K
  · have K := K.2 c1
    refine zi_iconst (v := 0) dX12_fence_60 (by decide) ?_
    refine zi_istore (ls' := [some (.ref 56), some (.int x1), some (.int x2), some (.int x3), some (.int x4), some (.int 0), none]) dX12_fence_61 (by decide) rfl ?_
    refine zi_iload dX12_fence_63 rfl ?_
    refine zi_istore (ls' := [some (.ref 56), some (.int x1), some (.int x2), some (.int x3), some (.int x4), some (.int 0), some (.int x4)]) dX12_fence_65 (by decide) rfl ?_
    exact K
set_option maxRecDepth 100000 in
theorem tX12_fence_67 {G : zG} {d b : Nat} {I : Nat → Nat → Int32} {L : Nat → Nat → Int64} {R : zR} {x1 : Int32} {x2 : Int32} {x3 : Int32} {x4 : Int32} {x5 : Int32} {x6 : Int32}
    (K : (((x4 + x3) ≤ x6 → (((100 * x5) < (x2 <<< ((I 57 0) &&& 31)) → zA G (d + 2) mX12_fence 47 [some (.ref 56), some (.int x1), some (.int x2), some (.int x3), some (.int (x4 + 1)), none, none] [] (zh b I L) R) ∧ (¬ (100 * x5) < (x2 <<< ((I 57 0) &&& 31)) → R = (some (.int (((11 * x4) + x3) - 1)), zh b I L)))) ∧ (¬ (x4 + x3) ≤ x6 → (vp_in x6 6 ∧ zA G (d + 2) mX12_fence 67 [some (.ref 56), some (.int x1), some (.int x2), some (.int x3), some (.int x4), some (.int (x5 + (I 70 (zx x6)))), some (.int (x6 + 1))] [] (zh b I L) R)))) :
    zA G (d + 2) mX12_fence 67 [some (.ref 56), some (.int x1), some (.int x2), some (.int x3), some (.int x4), some (.int x5), some (.int x6)] [] (zh b I L) R := by
  refine zi_iload dX12_fence_67 rfl ?_
  refine zi_iload dX12_fence_69 rfl ?_
  refine zi_iload_n dX12_fence_71 rfl rfl ?_
  refine zi_iadd dX12_fence_72 ?_
  refine zi_icmp_ge (tgt := 94) dX12_fence_73 (by decide) (fun c1 => ?_) (fun c1 => ?_)
  · have K := K.1 c1
    refine zi_bipush (v := 100) dX12_fence_94 (by decide) ?_
    refine zi_iload dX12_fence_96 rfl ?_
    refine zi_imul dX12_fence_98 ?_
    refine zi_iload_n dX12_fence_99 rfl rfl ?_
    refine zi_aload_n dX12_fence_100 rfl rfl ?_
    refine zg_getF (k := 0) (v := .ref 57) dX12_fence_101 zc12 rfl (Nat.le_of_ble_eq_true rfl) (Nat.le_of_ble_eq_true rfl) u_806 rfl (rfl) ?_
    refine zi_iconst (v := 0) dX12_fence_104 (by decide) ?_
    refine zg_iaload dX12_fence_105 (rfl) (Nat.le_of_ble_eq_true rfl) (zvi (by decide)) ?_
    show zA G (d + 2) mX12_fence 106 [some (.ref 56), some (.int x1), some (.int x2), some (.int x3), some (.int x4), some (.int x5), some (.int x6)] [.int (I 57 0), .int x2, .int (100 * x5)] (zh b I L) R
    refine zi_ishl dX12_fence_106 ?_
    refine zi_icmp_lt (tgt := 120) dX12_fence_107 (by decide) (fun c2 => ?_) (fun c2 => ?_)
    · have K := K.1 c2
      refine zi_iinc (v := x4 + 1) (ls' := [some (.ref 56), some (.int x1), some (.int x2), some (.int x3), some (.int (x4 + 1)), some (.int x5), some (.int x6)]) dX12_fence_120 rfl (by decide) rfl rfl ?_
      refine zi_goto (tgt := 47) dX12_fence_123 (by decide) ?_
      refine zi_mask [true, true, true, true, true, false, false] rfl ?_
      exact K
    · have K := K.2 c2
      refine zi_bipush (v := 11) dX12_fence_110 (by decide) ?_
      refine zi_iload dX12_fence_112 rfl ?_
      refine zi_imul dX12_fence_114 ?_
      refine zi_iload_n dX12_fence_115 rfl rfl ?_
      refine zi_iadd dX12_fence_116 ?_
      refine zi_iconst (v := 1) dX12_fence_117 (by decide) ?_
      refine zi_isub dX12_fence_118 ?_
      subst K
      exact zi_ireturn dX12_fence_119 rfl rfl
  · have K := K.2 c1
    refine zi_iload dX12_fence_76 rfl ?_
    refine zi_aload_n dX12_fence_78 rfl rfl ?_
    refine zg_getF (k := 20) (v := .ref 70) dX12_fence_79 zc12 rfl (Nat.le_of_ble_eq_true rfl) (Nat.le_of_ble_eq_true rfl) u_826 rfl (rfl) ?_
    refine zi_iload dX12_fence_82 rfl ?_
    have o3 := K.1
    have K := K.2
    refine zg_iaload dX12_fence_84 (rfl) (Nat.le_of_ble_eq_true rfl) o3 ?_
    refine zi_iadd dX12_fence_85 ?_
    refine zi_istore (ls' := [some (.ref 56), some (.int x1), some (.int x2), some (.int x3), some (.int x4), some (.int (x5 + (I 70 (zx x6)))), some (.int x6)]) dX12_fence_86 (by decide) rfl ?_
    refine zi_iinc (v := x6 + 1) (ls' := [some (.ref 56), some (.int x1), some (.int x2), some (.int x3), some (.int x4), some (.int (x5 + (I 70 (zx x6)))), some (.int (x6 + 1))]) dX12_fence_88 rfl (by decide) rfl rfl ?_
    refine zi_goto (tgt := 67) dX12_fence_91 (by decide) ?_
    exact K
set_option maxRecDepth 100000 in
theorem tX12_feet_0 {G : zG} {d b : Nat} {I : Nat → Nat → Int32} {L : Nat → Nat → Int64} {R : zR} {x1 : Int32} (hR : zR0 R)
    (K : (((0 ≤ x1.toInt64 ∧ x1.toInt64 ≤ (I 57 2 - 1).toInt64) → (∃ (I2 : Nat → Nat → Int32), zCall (d + 3) mX12_walks [.ref 56, .int x1] (zh b I L) (none, zh b I2 L) ∧ zA G (d + 4) mX12_feet 28 [some (.ref 56), some (.int x1), some (.long 1), none, some (.long 1), none, some (.int 0)] [] (zh b I2 L) R)) ∧ (¬ (0 ≤ x1.toInt64 ∧ x1.toInt64 ≤ (I 57 2 - 1).toInt64) → (∃ (r4 : Int32) (I5 : Nat → Nat → Int32), zCall (d + 3) mX12_refuse [.ref 56, .int (-2)] (zh b I L) (some (.int r4), zh b I5 L) ∧ R = (some (.int r4), zh b I5 L))))) :
    zA G (d + 4) mX12_feet 0 [some (.ref 56), some (.int x1), none, none, none, none, none] [] (zh b I L) R := by
  refine zi_aload_n dX12_feet_0 rfl rfl ?_
  refine zi_iload_n dX12_feet_1 rfl rfl ?_
  refine zi_callV (N := mX12_isRunner) (av := [.int x1]) (st := []) (R1 := (some (.int (zb (0 ≤ x1.toInt64 ∧ x1.toInt64 ≤ (I 57 2 - 1).toInt64))), zh b I L)) dX12_feet_2 okX12_isRunner u_922 u_924 s_24 zc12 (rfl) (Nat.le_of_ble_eq_true rfl) arX12_isRunner rfl (Nat.le_of_ble_eq_true rfl) (kX12_isRunner _) hR ?_
  show zA G (d + 4) mX12_feet 5 [some (.ref 56), some (.int x1), none, none, none, none, none] [.int (zb (0 ≤ x1.toInt64 ∧ x1.toInt64 ≤ (I 57 2 - 1).toInt64))] (zh b I L) R
  refine zi_if_ne (tgt := 15) dX12_feet_5 (by decide) (fun c1 => ?_) (fun c1 => ?_)
  · have K := K.1 (zb_1 c1)
    refine zi_aload_n dX12_feet_15 rfl rfl ?_
    refine zi_iload_n dX12_feet_16 rfl rfl ?_
    obtain ⟨I2, h3, K⟩ := K
    refine zi_callV (N := mX12_walks) (av := [.int x1]) (st := []) (R1 := (none, zh b I2 L)) dX12_feet_17 okX12_walks u_1000 u_1002 s_34 zc12 (rfl) (Nat.le_of_ble_eq_true rfl) arX12_walks rfl (Nat.le_of_ble_eq_true rfl) (h3) hR ?_
    show zA G (d + 4) mX12_feet 20 [some (.ref 56), some (.int x1), none, none, none, none, none] [] (zh b I2 L) R
    refine zi_lconst (v := 1) dX12_feet_20 (by decide) ?_
    refine zi_lstore_n (ls' := [some (.ref 56), some (.int x1), some (.long 1), none, none, none, none]) dX12_feet_21 rfl (by decide) rfl ?_
    refine zi_lconst (v := 1) dX12_feet_22 (by decide) ?_
    refine zi_lstore (ls' := [some (.ref 56), some (.int x1), some (.long 1), none, some (.long 1), none, none]) dX12_feet_23 (by decide) rfl ?_
    refine zi_iconst (v := 0) dX12_feet_25 (by decide) ?_
    refine zi_istore (ls' := [some (.ref 56), some (.int x1), some (.long 1), none, some (.long 1), none, some (.int 0)]) dX12_feet_26 (by decide) rfl ?_
    exact K
  · have K := K.2 (zb_0 c1)
    refine zi_aload_n dX12_feet_8 rfl rfl ?_
    refine zi_bipush (v := (-2)) dX12_feet_9 (by decide) ?_
    obtain ⟨r4, I5, h6, K⟩ := K
    refine zi_callV (N := mX12_refuse) (av := [.int (-2)]) (st := []) (R1 := (some (.int r4), zh b I5 L)) dX12_feet_11 okX12_refuse u_886 u_888 s_23 zc12 (rfl) (Nat.le_of_ble_eq_true rfl) arX12_refuse rfl (Nat.le_of_ble_eq_true rfl) (h6) hR ?_
    show zA G (d + 4) mX12_feet 14 [some (.ref 56), some (.int x1), none, none, none, none, none] [.int r4] (zh b I5 L) R
    subst K
    exact zi_ireturn dX12_feet_14 rfl rfl
set_option maxRecDepth 100000 in
theorem tX12_feet_28 {G : zG} {d b : Nat} {I : Nat → Nat → Int32} {L : Nat → Nat → Int64} {R : zR} {x1 : Int32} {x2 : Int64} {x4 : Int64} {x6 : Int32} (hR : zR0 R)
    (K : (((I 57 0) ≤ x6 → (∃ (r2 : Int32) (L3 : Nat → Nat → Int64), zCall (d + 3) mX12_fraction [.ref 56, .long x2, .long x4] (zh b I L) (some (.int r2), zh b I L3) ∧ R = (some (.int r2), zh b I L3))) ∧ (¬ (I 57 0) ≤ x6 → (vp_in x6 8 ∧ zA G (d + 4) mX12_feet 28 [some (.ref 56), some (.int x1), some (.long (x2 * ((40 - (I 64 (zx x6))).toInt64))), none, some (.long (x4 * 40)), none, some (.int (x6 + 1))] [] (zh b I L) R)))) :
    zA G (d + 4) mX12_feet 28 [some (.ref 56), some (.int x1), some (.long x2), none, some (.long x4), none, some (.int x6)] [] (zh b I L) R := by
  refine zi_iload dX12_feet_28 rfl ?_
  refine zi_aload_n dX12_feet_30 rfl rfl ?_
  refine zg_getF (k := 0) (v := .ref 57) dX12_feet_31 zc12 rfl (Nat.le_of_ble_eq_true rfl) (Nat.le_of_ble_eq_true rfl) u_806 rfl (rfl) ?_
  refine zi_iconst (v := 0) dX12_feet_34 (by decide) ?_
  refine zg_iaload dX12_feet_35 (rfl) (Nat.le_of_ble_eq_true rfl) (zvi (by decide)) ?_
  show zA G (d + 4) mX12_feet 36 [some (.ref 56), some (.int x1), some (.long x2), none, some (.long x4), none, some (.int x6)] [.int (I 57 0), .int x6] (zh b I L) R
  refine zi_icmp_ge (tgt := 67) dX12_feet_36 (by decide) (fun c1 => ?_) (fun c1 => ?_)
  · have K := K.1 c1
    refine zi_aload_n dX12_feet_67 rfl rfl ?_
    refine zi_lload_n dX12_feet_68 rfl rfl ?_
    refine zi_lload dX12_feet_69 rfl ?_
    obtain ⟨r2, L3, h4, K⟩ := K
    refine zi_callV (N := mX12_fraction) (av := [.long x2, .long x4]) (st := []) (R1 := (some (.int r2), zh b I L3)) dX12_feet_71 okX12_fraction u_1091 u_1093 s_46 zc12 (rfl) (Nat.le_of_ble_eq_true rfl) arX12_fraction rfl (Nat.le_of_ble_eq_true rfl) (h4) hR ?_
    show zA G (d + 4) mX12_feet 74 [some (.ref 56), some (.int x1), some (.long x2), none, some (.long x4), none, some (.int x6)] [.int r2] (zh b I L3) R
    subst K
    exact zi_ireturn dX12_feet_74 rfl rfl
  · have K := K.2 c1
    refine zi_lload_n dX12_feet_39 rfl rfl ?_
    refine zi_bipush (v := 40) dX12_feet_40 (by decide) ?_
    refine zi_aload_n dX12_feet_42 rfl rfl ?_
    refine zg_getF (k := 14) (v := .ref 64) dX12_feet_43 zc12 rfl (Nat.le_of_ble_eq_true rfl) (Nat.le_of_ble_eq_true rfl) u_820 rfl (rfl) ?_
    refine zi_iload dX12_feet_46 rfl ?_
    have o5 := K.1
    have K := K.2
    refine zg_iaload dX12_feet_48 (rfl) (Nat.le_of_ble_eq_true rfl) o5 ?_
    refine zi_isub dX12_feet_49 ?_
    refine zi_i2l dX12_feet_50 ?_
    refine zi_lmul dX12_feet_51 ?_
    refine zi_lstore_n (ls' := [some (.ref 56), some (.int x1), some (.long (x2 * ((40 - (I 64 (zx x6))).toInt64))), none, some (.long x4), none, some (.int x6)]) dX12_feet_52 rfl (by decide) rfl ?_
    refine zi_lload dX12_feet_53 rfl ?_
    refine zi_ldc2 dX12_feet_55 u_1104 ?_
    refine zi_lmul dX12_feet_58 ?_
    refine zi_lstore (ls' := [some (.ref 56), some (.int x1), some (.long (x2 * ((40 - (I 64 (zx x6))).toInt64))), none, some (.long (x4 * 40)), none, some (.int x6)]) dX12_feet_59 (by decide) rfl ?_
    refine zi_iinc (v := x6 + 1) (ls' := [some (.ref 56), some (.int x1), some (.long (x2 * ((40 - (I 64 (zx x6))).toInt64))), none, some (.long (x4 * 40)), none, some (.int (x6 + 1))]) dX12_feet_61 rfl (by decide) rfl rfl ?_
    refine zi_goto (tgt := 28) dX12_feet_64 (by decide) ?_
    exact K
set_option maxRecDepth 100000 in
theorem tX12_bits_0 {G : zG} {d b : Nat} {I : Nat → Nat → Int32} {L : Nat → Nat → Int64} {R : zR} {x0 : Int32}
    (K : zA G d mX12_bits 4 [some (.int x0), some (.int 0), some (.int x0)] [] (zh b I L) R) :
    zA G d mX12_bits 0 [some (.int x0), none, none] [] (zh b I L) R := by
  refine zi_iconst (v := 0) dX12_bits_0 (by decide) ?_
  refine zi_istore_n (ls' := [some (.int x0), some (.int 0), none]) dX12_bits_1 rfl (by decide) rfl ?_
  refine zi_iload_n dX12_bits_2 rfl rfl ?_
  refine zi_istore_n (ls' := [some (.int x0), some (.int 0), some (.int x0)]) dX12_bits_3 rfl (by decide) rfl ?_
  exact K
set_option maxRecDepth 100000 in
theorem tX12_bits_4 {G : zG} {d b : Nat} {I : Nat → Nat → Int32} {L : Nat → Nat → Int64} {R : zR} {x0 : Int32} {x1 : Int32} {x2 : Int32}
    (K : ((x2 = 0 → R = (some (.int x1), zh b I L)) ∧ (¬ x2 = 0 → zA G d mX12_bits 4 [some (.int x0), some (.int (x1 + 1)), some (.int (x2 &&& (x2 - 1)))] [] (zh b I L) R))) :
    zA G d mX12_bits 4 [some (.int x0), some (.int x1), some (.int x2)] [] (zh b I L) R := by
  refine zi_iload_n dX12_bits_4 rfl rfl ?_
  refine zi_if_eq (tgt := 20) dX12_bits_5 (by decide) (fun c1 => ?_) (fun c1 => ?_)
  · have K := K.1 c1
    refine zi_iload_n dX12_bits_20 rfl rfl ?_
    subst K
    exact zi_ireturn dX12_bits_21 rfl rfl
  · have K := K.2 c1
    refine zi_iinc (v := x1 + 1) (ls' := [some (.int x0), some (.int (x1 + 1)), some (.int x2)]) dX12_bits_8 rfl (by decide) rfl rfl ?_
    refine zi_iload_n dX12_bits_11 rfl rfl ?_
    refine zi_iload_n dX12_bits_12 rfl rfl ?_
    refine zi_iconst (v := 1) dX12_bits_13 (by decide) ?_
    refine zi_isub dX12_bits_14 ?_
    refine zi_iand dX12_bits_15 ?_
    refine zi_istore_n (ls' := [some (.int x0), some (.int (x1 + 1)), some (.int (x2 &&& (x2 - 1)))]) dX12_bits_16 rfl (by decide) rfl ?_
    refine zi_goto (tgt := 4) dX12_bits_17 (by decide) ?_
    exact K
set_option maxRecDepth 100000 in
theorem tX12_catchers_0 {G : zG} {d b : Nat} {I : Nat → Nat → Int32} {L : Nat → Nat → Int64} {R : zR} 
    (K : zA G (d + 4) mX12_catchers 4 [some (.ref 56), some (.int 0), some (.int 0), none, none] [] (zh b I L) R) :
    zA G (d + 4) mX12_catchers 0 [some (.ref 56), none, none, none, none] [] (zh b I L) R := by
  refine zi_iconst (v := 0) dX12_catchers_0 (by decide) ?_
  refine zi_istore_n (ls' := [some (.ref 56), some (.int 0), none, none, none]) dX12_catchers_1 rfl (by decide) rfl ?_
  refine zi_iconst (v := 0) dX12_catchers_2 (by decide) ?_
  refine zi_istore_n (ls' := [some (.ref 56), some (.int 0), some (.int 0), none, none]) dX12_catchers_3 rfl (by decide) rfl ?_
  exact K
set_option maxRecDepth 100000 in
theorem tX12_catchers_4 {G : zG} {d b : Nat} {I : Nat → Nat → Int32} {L : Nat → Nat → Int64} {R : zR} {x1 : Int32} {x2 : Int32} (hR : zR0 R)
    (K : (((I 57 2) ≤ x2 → zA G (d + 4) mX12_catchers 45 [some (.ref 56), some (.int x1), some (.int (-1)), some (.int 0), none] [] (zh b I L) R) ∧ (¬ (I 57 2) ≤ x2 → (∃ (I2 : Nat → Nat → Int32), zCall (d + 3) mX12_walks [.ref 56, .int x2] (zh b I L) (none, zh b I2 L) ∧ (vp_in (I2 57 0) 9 ∧ zA G (d + 4) mX12_catchers 4 [some (.ref 56), some (.int (x1 ||| (1 <<< ((I2 63 (zx (I2 57 0))) &&& 31)))), some (.int (x2 + 1)), none, none] [] (zh b I2 L) R))))) :
    zA G (d + 4) mX12_catchers 4 [some (.ref 56), some (.int x1), some (.int x2), none, none] [] (zh b I L) R := by
  refine zi_iload_n dX12_catchers_4 rfl rfl ?_
  refine zi_aload_n dX12_catchers_5 rfl rfl ?_
  refine zg_getF (k := 0) (v := .ref 57) dX12_catchers_6 zc12 rfl (Nat.le_of_ble_eq_true rfl) (Nat.le_of_ble_eq_true rfl) u_806 rfl (rfl) ?_
  refine zi_iconst (v := 2) dX12_catchers_9 (by decide) ?_
  refine zg_iaload dX12_catchers_10 (rfl) (Nat.le_of_ble_eq_true rfl) (zvi (by decide)) ?_
  show zA G (d + 4) mX12_catchers 11 [some (.ref 56), some (.int x1), some (.int x2), none, none] [.int (I 57 2), .int x2] (zh b I L) R
  refine zi_icmp_ge (tgt := 41) dX12_catchers_11 (by decide) (fun c1 => ?_) (fun c1 => ?_)
  · have K := K.1 c1
    refine zi_iconst (v := (-1)) dX12_catchers_41 (by decide) ?_
    refine zi_istore_n (ls' := [some (.ref 56), some (.int x1), some (.int (-1)), none, none]) dX12_catchers_42 rfl (by decide) rfl ?_
    refine zi_iconst (v := 0) dX12_catchers_43 (by decide) ?_
    refine zi_istore_n (ls' := [some (.ref 56), some (.int x1), some (.int (-1)), some (.int 0), none]) dX12_catchers_44 rfl (by decide) rfl ?_
    exact K
  · have K := K.2 c1
    refine zi_aload_n dX12_catchers_14 rfl rfl ?_
    refine zi_iload_n dX12_catchers_15 rfl rfl ?_
    obtain ⟨I2, h3, K⟩ := K
    refine zi_callV (N := mX12_walks) (av := [.int x2]) (st := []) (R1 := (none, zh b I2 L)) dX12_catchers_16 okX12_walks u_1000 u_1002 s_34 zc12 (rfl) (Nat.le_of_ble_eq_true rfl) arX12_walks rfl (Nat.le_of_ble_eq_true rfl) (h3) hR ?_
    show zA G (d + 4) mX12_catchers 19 [some (.ref 56), some (.int x1), some (.int x2), none, none] [] (zh b I2 L) R
    refine zi_iload_n dX12_catchers_19 rfl rfl ?_
    refine zi_iconst (v := 1) dX12_catchers_20 (by decide) ?_
    refine zi_aload_n dX12_catchers_21 rfl rfl ?_
    refine zg_getF (k := 13) (v := .ref 63) dX12_catchers_22 zc12 rfl (Nat.le_of_ble_eq_true rfl) (Nat.le_of_ble_eq_true rfl) u_819 rfl (rfl) ?_
    refine zi_aload_n dX12_catchers_25 rfl rfl ?_
    refine zg_getF (k := 0) (v := .ref 57) dX12_catchers_26 zc12 rfl (Nat.le_of_ble_eq_true rfl) (Nat.le_of_ble_eq_true rfl) u_806 rfl (rfl) ?_
    refine zi_iconst (v := 0) dX12_catchers_29 (by decide) ?_
    refine zg_iaload dX12_catchers_30 (rfl) (Nat.le_of_ble_eq_true rfl) (zvi (by decide)) ?_
    show zA G (d + 4) mX12_catchers 31 [some (.ref 56), some (.int x1), some (.int x2), none, none] [.int (I2 57 0), .ref 63, .int 1, .int x1] (zh b I2 L) R
    have o4 := K.1
    have K := K.2
    refine zg_iaload dX12_catchers_31 (rfl) (Nat.le_of_ble_eq_true rfl) o4 ?_
    refine zi_ishl dX12_catchers_32 ?_
    refine zi_ior dX12_catchers_33 ?_
    refine zi_istore_n (ls' := [some (.ref 56), some (.int (x1 ||| (1 <<< ((I2 63 (zx (I2 57 0))) &&& 31)))), some (.int x2), none, none]) dX12_catchers_34 rfl (by decide) rfl ?_
    refine zi_iinc (v := x2 + 1) (ls' := [some (.ref 56), some (.int (x1 ||| (1 <<< ((I2 63 (zx (I2 57 0))) &&& 31)))), some (.int (x2 + 1)), none, none]) dX12_catchers_35 rfl (by decide) rfl rfl ?_
    refine zi_goto (tgt := 4) dX12_catchers_38 (by decide) ?_
    exact K
set_option maxRecDepth 100000 in
theorem tX12_catchers_45 {G : zG} {d b : Nat} {I : Nat → Nat → Int32} {L : Nat → Nat → Int64} {R : zR} {x1 : Int32} {x2 : Int32} {x3 : Int32} (hR : zR0 R)
    (K : (((1 <<< ((I 57 1) &&& 31)) ≤ x3 → R = (some (.int x2), zh b I L)) ∧ (¬ (1 <<< ((I 57 1) &&& 31)) ≤ x3 → ((¬ (x1 &&& (((x3 ||| (x3 <<< (1 &&& 31))) ||| (x3 >>> (1 &&& 31))) ^^^ (-1))) = 0 → (((0 : Int32) = 0 → zA G (d + 4) mX12_catchers 45 [some (.ref 56), some (.int x1), some (.int x2), some (.int (x3 + 1)), none] [] (zh b I L) R) ∧ (¬ (0 : Int32) = 0 → ((x2 = (-1) → zA G (d + 4) mX12_catchers 45 [some (.ref 56), some (.int x1), some (.int x3), some (.int (x3 + 1)), none] [] (zh b I L) R) ∧ (¬ x2 = (-1) → (∃ (r5 : Int32), zCall (d + 3) mX12_bits [.int x3] (zh b I L) (some (.int r5), zh b I L) ∧ (∃ (r7 : Int32), zCall (d + 3) mX12_bits [.int x2] (zh b I L) (some (.int r7), zh b I L) ∧ ((r7 ≤ r5 → zA G (d + 4) mX12_catchers 45 [some (.ref 56), some (.int x1), some (.int x2), some (.int (x3 + 1)), none] [] (zh b I L) R) ∧ (¬ r7 ≤ r5 → zA G (d + 4) mX12_catchers 45 [some (.ref 56), some (.int x1), some (.int x3), some (.int (x3 + 1)), none] [] (zh b I L) R))))))))) ∧ ((x1 &&& (((x3 ||| (x3 <<< (1 &&& 31))) ||| (x3 >>> (1 &&& 31))) ^^^ (-1))) = 0 → (((1 : Int32) = 0 → zA G (d + 4) mX12_catchers 45 [some (.ref 56), some (.int x1), some (.int x2), some (.int (x3 + 1)), none] [] (zh b I L) R) ∧ (¬ (1 : Int32) = 0 → ((x2 = (-1) → zA G (d + 4) mX12_catchers 45 [some (.ref 56), some (.int x1), some (.int x3), some (.int (x3 + 1)), none] [] (zh b I L) R) ∧ (¬ x2 = (-1) → (∃ (r12 : Int32), zCall (d + 3) mX12_bits [.int x3] (zh b I L) (some (.int r12), zh b I L) ∧ (∃ (r14 : Int32), zCall (d + 3) mX12_bits [.int x2] (zh b I L) (some (.int r14), zh b I L) ∧ ((r14 ≤ r12 → zA G (d + 4) mX12_catchers 45 [some (.ref 56), some (.int x1), some (.int x2), some (.int (x3 + 1)), none] [] (zh b I L) R) ∧ (¬ r14 ≤ r12 → zA G (d + 4) mX12_catchers 45 [some (.ref 56), some (.int x1), some (.int x3), some (.int (x3 + 1)), none] [] (zh b I L) R))))))))))))) :
    zA G (d + 4) mX12_catchers 45 [some (.ref 56), some (.int x1), some (.int x2), some (.int x3), none] [] (zh b I L) R := by
  refine zi_iload_n dX12_catchers_45 rfl rfl ?_
  refine zi_iconst (v := 1) dX12_catchers_46 (by decide) ?_
  refine zi_aload_n dX12_catchers_47 rfl rfl ?_
  refine zg_getF (k := 0) (v := .ref 57) dX12_catchers_48 zc12 rfl (Nat.le_of_ble_eq_true rfl) (Nat.le_of_ble_eq_true rfl) u_806 rfl (rfl) ?_
  refine zi_iconst (v := 1) dX12_catchers_51 (by decide) ?_
  refine zg_iaload dX12_catchers_52 (rfl) (Nat.le_of_ble_eq_true rfl) (zvi (by decide)) ?_
  show zA G (d + 4) mX12_catchers 53 [some (.ref 56), some (.int x1), some (.int x2), some (.int x3), none] [.int (I 57 1), .int 1, .int x3] (zh b I L) R
  refine zi_ishl dX12_catchers_53 ?_
  refine zi_icmp_ge (tgt := 113) dX12_catchers_54 (by decide) (fun c1 => ?_) (fun c1 => ?_)
  · have K := K.1 c1
    refine zi_iload_n dX12_catchers_113 rfl rfl ?_
    subst K
    exact zi_ireturn dX12_catchers_114 rfl rfl
  · have K := K.2 c1
    refine zi_iload_n dX12_catchers_57 rfl rfl ?_
    refine zi_iload_n dX12_catchers_58 rfl rfl ?_
    refine zi_iload_n dX12_catchers_59 rfl rfl ?_
    refine zi_iconst (v := 1) dX12_catchers_60 (by decide) ?_
    refine zi_ishl dX12_catchers_61 ?_
    refine zi_ior dX12_catchers_62 ?_
    refine zi_iload_n dX12_catchers_63 rfl rfl ?_
    refine zi_iconst (v := 1) dX12_catchers_64 (by decide) ?_
    refine zi_ishr dX12_catchers_65 ?_
    refine zi_ior dX12_catchers_66 ?_
    refine zi_iconst (v := (-1)) dX12_catchers_67 (by decide) ?_
    refine zi_ixor dX12_catchers_68 ?_
    refine zi_iand dX12_catchers_69 ?_
    refine zi_if_ne (tgt := 77) dX12_catchers_70 (by decide) (fun c2 => ?_) (fun c2 => ?_)
    · have K := K.1 c2
      refine zi_iconst (v := 0) dX12_catchers_77 (by decide) ?_
      refine zi_istore (ls' := [some (.ref 56), some (.int x1), some (.int x2), some (.int x3), some (.int 0)]) dX12_catchers_78 (by decide) rfl ?_
      refine zi_iload dX12_catchers_80 rfl ?_
      refine zi_if_eq (tgt := 105) dX12_catchers_82 (by decide) (fun c3 => ?_) (fun c3 => ?_)
      · have K := K.1 c3
        refine zi_iload_n dX12_catchers_105 rfl rfl ?_
        refine zi_istore_n (ls' := [some (.ref 56), some (.int x1), some (.int x2), some (.int x3), some (.int 0)]) dX12_catchers_106 rfl (by decide) rfl ?_
        refine zi_iinc (v := x3 + 1) (ls' := [some (.ref 56), some (.int x1), some (.int x2), some (.int (x3 + 1)), some (.int 0)]) dX12_catchers_107 rfl (by decide) rfl rfl ?_
        refine zi_goto (tgt := 45) dX12_catchers_110 (by decide) ?_
        refine zi_mask [true, true, true, true, false] rfl ?_
        exact K
      · have K := K.2 c3
        refine zi_iload_n dX12_catchers_85 rfl rfl ?_
        refine zi_iconst (v := (-1)) dX12_catchers_86 (by decide) ?_
        refine zi_icmp_eq (tgt := 101) dX12_catchers_87 (by decide) (fun c4 => ?_) (fun c4 => ?_)
        · have K := K.1 c4
          refine zi_iload_n dX12_catchers_101 rfl rfl ?_
          refine zi_goto (tgt := 106) dX12_catchers_102 (by decide) ?_
          refine zi_istore_n (ls' := [some (.ref 56), some (.int x1), some (.int x3), some (.int x3), some (.int 0)]) dX12_catchers_106 rfl (by decide) rfl ?_
          refine zi_iinc (v := x3 + 1) (ls' := [some (.ref 56), some (.int x1), some (.int x3), some (.int (x3 + 1)), some (.int 0)]) dX12_catchers_107 rfl (by decide) rfl rfl ?_
          refine zi_goto (tgt := 45) dX12_catchers_110 (by decide) ?_
          refine zi_mask [true, true, true, true, false] rfl ?_
          exact K
        · have K := K.2 c4
          refine zi_iload_n dX12_catchers_90 rfl rfl ?_
          obtain ⟨r5, h6, K⟩ := K
          refine zi_callS (N := mX12_bits) (av := [.int x3]) (st := []) (R1 := (some (.int r5), zh b I L)) dX12_catchers_91 okX12_bits u_1109 u_1110 arX12_bits rfl (Nat.le_of_ble_eq_true rfl) (h6) hR ?_
          show zA G (d + 4) mX12_catchers 94 [some (.ref 56), some (.int x1), some (.int x2), some (.int x3), some (.int 0)] [.int r5] (zh b I L) R
          refine zi_iload_n dX12_catchers_94 rfl rfl ?_
          obtain ⟨r7, h8, K⟩ := K
          refine zi_callS (N := mX12_bits) (av := [.int x2]) (st := [.int r5]) (R1 := (some (.int r7), zh b I L)) dX12_catchers_95 okX12_bits u_1109 u_1110 arX12_bits rfl (Nat.le_of_ble_eq_true rfl) (h8) hR ?_
          show zA G (d + 4) mX12_catchers 98 [some (.ref 56), some (.int x1), some (.int x2), some (.int x3), some (.int 0)] [.int r7, .int r5] (zh b I L) R
          refine zi_icmp_ge (tgt := 105) dX12_catchers_98 (by decide) (fun c9 => ?_) (fun c9 => ?_)
          · have K := K.1 c9
            refine zi_iload_n dX12_catchers_105 rfl rfl ?_
            refine zi_istore_n (ls' := [some (.ref 56), some (.int x1), some (.int x2), some (.int x3), some (.int 0)]) dX12_catchers_106 rfl (by decide) rfl ?_
            refine zi_iinc (v := x3 + 1) (ls' := [some (.ref 56), some (.int x1), some (.int x2), some (.int (x3 + 1)), some (.int 0)]) dX12_catchers_107 rfl (by decide) rfl rfl ?_
            refine zi_goto (tgt := 45) dX12_catchers_110 (by decide) ?_
            refine zi_mask [true, true, true, true, false] rfl ?_
            exact K
          · have K := K.2 c9
            refine zi_iload_n dX12_catchers_101 rfl rfl ?_
            refine zi_goto (tgt := 106) dX12_catchers_102 (by decide) ?_
            refine zi_istore_n (ls' := [some (.ref 56), some (.int x1), some (.int x3), some (.int x3), some (.int 0)]) dX12_catchers_106 rfl (by decide) rfl ?_
            refine zi_iinc (v := x3 + 1) (ls' := [some (.ref 56), some (.int x1), some (.int x3), some (.int (x3 + 1)), some (.int 0)]) dX12_catchers_107 rfl (by decide) rfl rfl ?_
            refine zi_goto (tgt := 45) dX12_catchers_110 (by decide) ?_
            refine zi_mask [true, true, true, true, false] rfl ?_
            exact K
    · have K := K.2 c2
      refine zi_iconst (v := 1) dX12_catchers_73 (by decide) ?_
      refine zi_goto (tgt := 78) dX12_catchers_74 (by decide) ?_
      refine zi_istore (ls' := [some (.ref 56), some (.int x1), some (.int x2), some (.int x3), some (.int 1)]) dX12_catchers_78 (by decide) rfl ?_
      refine zi_iload dX12_catchers_80 rfl ?_
      refine zi_if_eq (tgt := 105) dX12_catchers_82 (by decide) (fun c10 => ?_) (fun c10 => ?_)
      · have K := K.1 c10
        refine zi_iload_n dX12_catchers_105 rfl rfl ?_
        refine zi_istore_n (ls' := [some (.ref 56), some (.int x1), some (.int x2), some (.int x3), some (.int 1)]) dX12_catchers_106 rfl (by decide) rfl ?_
        refine zi_iinc (v := x3 + 1) (ls' := [some (.ref 56), some (.int x1), some (.int x2), some (.int (x3 + 1)), some (.int 1)]) dX12_catchers_107 rfl (by decide) rfl rfl ?_
        refine zi_goto (tgt := 45) dX12_catchers_110 (by decide) ?_
        refine zi_mask [true, true, true, true, false] rfl ?_
        exact K
      · have K := K.2 c10
        refine zi_iload_n dX12_catchers_85 rfl rfl ?_
        refine zi_iconst (v := (-1)) dX12_catchers_86 (by decide) ?_
        refine zi_icmp_eq (tgt := 101) dX12_catchers_87 (by decide) (fun c11 => ?_) (fun c11 => ?_)
        · have K := K.1 c11
          refine zi_iload_n dX12_catchers_101 rfl rfl ?_
          refine zi_goto (tgt := 106) dX12_catchers_102 (by decide) ?_
          refine zi_istore_n (ls' := [some (.ref 56), some (.int x1), some (.int x3), some (.int x3), some (.int 1)]) dX12_catchers_106 rfl (by decide) rfl ?_
          refine zi_iinc (v := x3 + 1) (ls' := [some (.ref 56), some (.int x1), some (.int x3), some (.int (x3 + 1)), some (.int 1)]) dX12_catchers_107 rfl (by decide) rfl rfl ?_
          refine zi_goto (tgt := 45) dX12_catchers_110 (by decide) ?_
          refine zi_mask [true, true, true, true, false] rfl ?_
          exact K
        · have K := K.2 c11
          refine zi_iload_n dX12_catchers_90 rfl rfl ?_
          obtain ⟨r12, h13, K⟩ := K
          refine zi_callS (N := mX12_bits) (av := [.int x3]) (st := []) (R1 := (some (.int r12), zh b I L)) dX12_catchers_91 okX12_bits u_1109 u_1110 arX12_bits rfl (Nat.le_of_ble_eq_true rfl) (h13) hR ?_
          show zA G (d + 4) mX12_catchers 94 [some (.ref 56), some (.int x1), some (.int x2), some (.int x3), some (.int 1)] [.int r12] (zh b I L) R
          refine zi_iload_n dX12_catchers_94 rfl rfl ?_
          obtain ⟨r14, h15, K⟩ := K
          refine zi_callS (N := mX12_bits) (av := [.int x2]) (st := [.int r12]) (R1 := (some (.int r14), zh b I L)) dX12_catchers_95 okX12_bits u_1109 u_1110 arX12_bits rfl (Nat.le_of_ble_eq_true rfl) (h15) hR ?_
          show zA G (d + 4) mX12_catchers 98 [some (.ref 56), some (.int x1), some (.int x2), some (.int x3), some (.int 1)] [.int r14, .int r12] (zh b I L) R
          refine zi_icmp_ge (tgt := 105) dX12_catchers_98 (by decide) (fun c16 => ?_) (fun c16 => ?_)
          · have K := K.1 c16
            refine zi_iload_n dX12_catchers_105 rfl rfl ?_
            refine zi_istore_n (ls' := [some (.ref 56), some (.int x1), some (.int x2), some (.int x3), some (.int 1)]) dX12_catchers_106 rfl (by decide) rfl ?_
            refine zi_iinc (v := x3 + 1) (ls' := [some (.ref 56), some (.int x1), some (.int x2), some (.int (x3 + 1)), some (.int 1)]) dX12_catchers_107 rfl (by decide) rfl rfl ?_
            refine zi_goto (tgt := 45) dX12_catchers_110 (by decide) ?_
            refine zi_mask [true, true, true, true, false] rfl ?_
            exact K
          · have K := K.2 c16
            refine zi_iload_n dX12_catchers_101 rfl rfl ?_
            refine zi_goto (tgt := 106) dX12_catchers_102 (by decide) ?_
            refine zi_istore_n (ls' := [some (.ref 56), some (.int x1), some (.int x3), some (.int x3), some (.int 1)]) dX12_catchers_106 rfl (by decide) rfl ?_
            refine zi_iinc (v := x3 + 1) (ls' := [some (.ref 56), some (.int x1), some (.int x3), some (.int (x3 + 1)), some (.int 1)]) dX12_catchers_107 rfl (by decide) rfl rfl ?_
            refine zi_goto (tgt := 45) dX12_catchers_110 (by decide) ?_
            refine zi_mask [true, true, true, true, false] rfl ?_
            exact K
set_option maxRecDepth 100000 in
theorem tX12_harmOfAll_0 {G : zG} {d b : Nat} {I : Nat → Nat → Int32} {L : Nat → Nat → Int64} {R : zR} 
    (K : zA G (d + 4) mX12_harmOfAll 4 [some (.ref 56), some (.int 0), some (.int 0)] [] (zh b I L) R) :
    zA G (d + 4) mX12_harmOfAll 0 [some (.ref 56), none, none] [] (zh b I L) R := by
  refine zi_iconst (v := 0) dX12_harmOfAll_0 (by decide) ?_
  refine zi_istore_n (ls' := [some (.ref 56), some (.int 0), none]) dX12_harmOfAll_1 rfl (by decide) rfl ?_
  refine zi_iconst (v := 0) dX12_harmOfAll_2 (by decide) ?_
  refine zi_istore_n (ls' := [some (.ref 56), some (.int 0), some (.int 0)]) dX12_harmOfAll_3 rfl (by decide) rfl ?_
  exact K
set_option maxRecDepth 100000 in
theorem tX12_harmOfAll_4 {G : zG} {d b : Nat} {I : Nat → Nat → Int32} {L : Nat → Nat → Int64} {R : zR} {x1 : Int32} {x2 : Int32} (hR : zR0 R)
    (K : (((I 57 2) ≤ x2 → R = (some (.int x1), zh b I L)) ∧ (¬ (I 57 2) ≤ x2 → (∃ (I2 : Nat → Nat → Int32), zCall (d + 3) mX12_walks [.ref 56, .int x2] (zh b I L) (none, zh b I2 L) ∧ (∃ (r4 : Int32), zCall (d + 3) mX12_harm [.ref 56] (zh b I2 L) (some (.int r4), zh b I2 L) ∧ zA G (d + 4) mX12_harmOfAll 4 [some (.ref 56), some (.int (x1 + r4)), some (.int (x2 + 1))] [] (zh b I2 L) R))))) :
    zA G (d + 4) mX12_harmOfAll 4 [some (.ref 56), some (.int x1), some (.int x2)] [] (zh b I L) R := by
  refine zi_iload_n dX12_harmOfAll_4 rfl rfl ?_
  refine zi_aload_n dX12_harmOfAll_5 rfl rfl ?_
  refine zg_getF (k := 0) (v := .ref 57) dX12_harmOfAll_6 zc12 rfl (Nat.le_of_ble_eq_true rfl) (Nat.le_of_ble_eq_true rfl) u_806 rfl (rfl) ?_
  refine zi_iconst (v := 2) dX12_harmOfAll_9 (by decide) ?_
  refine zg_iaload dX12_harmOfAll_10 (rfl) (Nat.le_of_ble_eq_true rfl) (zvi (by decide)) ?_
  show zA G (d + 4) mX12_harmOfAll 11 [some (.ref 56), some (.int x1), some (.int x2)] [.int (I 57 2), .int x2] (zh b I L) R
  refine zi_icmp_ge (tgt := 32) dX12_harmOfAll_11 (by decide) (fun c1 => ?_) (fun c1 => ?_)
  · have K := K.1 c1
    refine zi_iload_n dX12_harmOfAll_32 rfl rfl ?_
    subst K
    exact zi_ireturn dX12_harmOfAll_33 rfl rfl
  · have K := K.2 c1
    refine zi_aload_n dX12_harmOfAll_14 rfl rfl ?_
    refine zi_iload_n dX12_harmOfAll_15 rfl rfl ?_
    obtain ⟨I2, h3, K⟩ := K
    refine zi_callV (N := mX12_walks) (av := [.int x2]) (st := []) (R1 := (none, zh b I2 L)) dX12_harmOfAll_16 okX12_walks u_1000 u_1002 s_34 zc12 (rfl) (Nat.le_of_ble_eq_true rfl) arX12_walks rfl (Nat.le_of_ble_eq_true rfl) (h3) hR ?_
    show zA G (d + 4) mX12_harmOfAll 19 [some (.ref 56), some (.int x1), some (.int x2)] [] (zh b I2 L) R
    refine zi_iload_n dX12_harmOfAll_19 rfl rfl ?_
    refine zi_aload_n dX12_harmOfAll_20 rfl rfl ?_
    obtain ⟨r4, h5, K⟩ := K
    refine zi_callV (N := mX12_harm) (av := []) (st := [.int x1]) (R1 := (some (.int r4), zh b I2 L)) dX12_harmOfAll_21 okX12_harm u_1025 u_1027 s_37 zc12 (rfl) (Nat.le_of_ble_eq_true rfl) arX12_harm rfl (Nat.le_of_ble_eq_true rfl) (h5) hR ?_
    show zA G (d + 4) mX12_harmOfAll 24 [some (.ref 56), some (.int x1), some (.int x2)] [.int r4, .int x1] (zh b I2 L) R
    refine zi_iadd dX12_harmOfAll_24 ?_
    refine zi_istore_n (ls' := [some (.ref 56), some (.int (x1 + r4)), some (.int x2)]) dX12_harmOfAll_25 rfl (by decide) rfl ?_
    refine zi_iinc (v := x2 + 1) (ls' := [some (.ref 56), some (.int (x1 + r4)), some (.int (x2 + 1))]) dX12_harmOfAll_26 rfl (by decide) rfl rfl ?_
    refine zi_goto (tgt := 4) dX12_harmOfAll_29 (by decide) ?_
    exact K
set_option maxRecDepth 100000 in
theorem tX12_bale_0 {G : zG} {d b : Nat} {I : Nat → Nat → Int32} {L : Nat → Nat → Int64} {R : zR}  (hR : zR0 R)
    (K : (∃ (r1 : Int32) (I2 : Nat → Nat → Int32), zCall (d + 4) mX12_harmOfAll [.ref 56] (zh b I L) (some (.int r1), zh b I2 L) ∧ zA G (d + 5) mX12_bale 9 [some (.ref 56), some (.int r1), some (.int (-1)), some (.int 0), none, none, none] [] (zh b I2 L) R)) :
    zA G (d + 5) mX12_bale 0 [some (.ref 56), none, none, none, none, none, none] [] (zh b I L) R := by
  refine zi_aload_n dX12_bale_0 rfl rfl ?_
  obtain ⟨r1, I2, h3, K⟩ := K
  refine zi_callV (N := mX12_harmOfAll) (av := []) (st := []) (R1 := (some (.int r1), zh b I2 L)) dX12_bale_1 okX12_harmOfAll u_1116 u_1118 s_47 zc12 (rfl) (Nat.le_of_ble_eq_true rfl) arX12_harmOfAll rfl (Nat.le_of_ble_eq_true rfl) (h3) hR ?_
  show zA G (d + 5) mX12_bale 4 [some (.ref 56), none, none, none, none, none, none] [.int r1] (zh b I2 L) R
  refine zi_istore_n (ls' := [some (.ref 56), some (.int r1), none, none, none, none, none]) dX12_bale_4 rfl (by decide) rfl ?_
  refine zi_iconst (v := (-1)) dX12_bale_5 (by decide) ?_
  refine zi_istore_n (ls' := [some (.ref 56), some (.int r1), some (.int (-1)), none, none, none, none]) dX12_bale_6 rfl (by decide) rfl ?_
  refine zi_iconst (v := 0) dX12_bale_7 (by decide) ?_
  refine zi_istore_n (ls' := [some (.ref 56), some (.int r1), some (.int (-1)), some (.int 0), none, none, none]) dX12_bale_8 rfl (by decide) rfl ?_
  exact K
set_option maxRecDepth 100000 in
theorem tX12_bale_9 {G : zG} {d b : Nat} {I : Nat → Nat → Int32} {L : Nat → Nat → Int64} {R : zR} {x1 : Int32} {x2 : Int32} {x3 : Int32}
    (K : (((I 57 0) ≤ x3 → R = (some (.int x2), zh b I L)) ∧ (¬ (I 57 0) ≤ x3 → zA G (d + 5) mX12_bale 22 [some (.ref 56), some (.int x1), some (.int x2), some (.int x3), some (.int 0), none, none] [] (zh b I L) R))) :
    zA G (d + 5) mX12_bale 9 [some (.ref 56), some (.int x1), some (.int x2), some (.int x3), none, none, none] [] (zh b I L) R := by
  refine zi_iload_n dX12_bale_9 rfl rfl ?_
  refine zi_aload_n dX12_bale_10 rfl rfl ?_
  refine zg_getF (k := 0) (v := .ref 57) dX12_bale_11 zc12 rfl (Nat.le_of_ble_eq_true rfl) (Nat.le_of_ble_eq_true rfl) u_806 rfl (rfl) ?_
  refine zi_iconst (v := 0) dX12_bale_14 (by decide) ?_
  refine zg_iaload dX12_bale_15 (rfl) (Nat.le_of_ble_eq_true rfl) (zvi (by decide)) ?_
  show zA G (d + 5) mX12_bale 16 [some (.ref 56), some (.int x1), some (.int x2), some (.int x3), none, none, none] [.int (I 57 0), .int x3] (zh b I L) R
  refine zi_icmp_ge (tgt := 109) dX12_bale_16 (by decide) (fun c1 => ?_) (fun c1 => ?_)
  · have K := K.1 c1
    refine zi_iload_n dX12_bale_109 rfl rfl ?_
    subst K
    exact zi_ireturn dX12_bale_110 rfl rfl
  · have K := K.2 c1
    refine zi_iconst (v := 0) dX12_bale_19 (by decide) ?_
    refine zi_istore (ls' := [some (.ref 56), some (.int x1), some (.int x2), some (.int x3), some (.int 0), none, none]) dX12_bale_20 (by decide) rfl ?_
    exact K
set_option maxRecDepth 100000 in
theorem tX12_bale_22 {G : zG} {d b : Nat} {I : Nat → Nat → Int32} {L : Nat → Nat → Int64} {R : zR} {x1 : Int32} {x2 : Int32} {x3 : Int32} {x4 : Int32} (hR : zR0 R)
    (K : (((I 57 1) ≤ x4 → zA G (d + 5) mX12_bale 9 [some (.ref 56), some (.int x1), some (.int x2), some (.int (x3 + 1)), none, none, none] [] (zh b I L) R) ∧ (¬ (I 57 1) ≤ x4 → (vp_in (zca 1 x3 x4) 463 ∧ (vp_in (zca 1 x3 x4) 463 ∧ (∃ (r4 : Int32) (I5 : Nat → Nat → Int32), zCall (d + 4) mX12_harmOfAll [.ref 56] (zh b (zup I 57 (zx (zca 1 x3 x4)) 3) L) (some (.int r4), zh b I5 L) ∧ (vp_in (zca 1 x3 x4) 463 ∧ ((x1 ≤ r4 → zA G (d + 5) mX12_bale 22 [some (.ref 56), some (.int x1), some (.int x2), some (.int x3), some (.int (x4 + 1)), none, none] [] (zh b (zup I5 57 (zx (zca 1 x3 x4)) (I 57 (zx (zca 1 x3 x4)))) L) R) ∧ (¬ x1 ≤ r4 → zA G (d + 5) mX12_bale 22 [some (.ref 56), some (.int r4), some (.int ((10 * x3) + x4)), some (.int x3), some (.int (x4 + 1)), none, none] [] (zh b (zup I5 57 (zx (zca 1 x3 x4)) (I 57 (zx (zca 1 x3 x4)))) L) R))))))))) :
    zA G (d + 5) mX12_bale 22 [some (.ref 56), some (.int x1), some (.int x2), some (.int x3), some (.int x4), none, none] [] (zh b I L) R := by
  refine zi_iload dX12_bale_22 rfl ?_
  refine zi_aload_n dX12_bale_24 rfl rfl ?_
  refine zg_getF (k := 0) (v := .ref 57) dX12_bale_25 zc12 rfl (Nat.le_of_ble_eq_true rfl) (Nat.le_of_ble_eq_true rfl) u_806 rfl (rfl) ?_
  refine zi_iconst (v := 1) dX12_bale_28 (by decide) ?_
  refine zg_iaload dX12_bale_29 (rfl) (Nat.le_of_ble_eq_true rfl) (zvi (by decide)) ?_
  show zA G (d + 5) mX12_bale 30 [some (.ref 56), some (.int x1), some (.int x2), some (.int x3), some (.int x4), none, none] [.int (I 57 1), .int x4] (zh b I L) R
  refine zi_icmp_ge (tgt := 103) dX12_bale_30 (by decide) (fun c1 => ?_) (fun c1 => ?_)
  · have K := K.1 c1
    refine zi_iinc (v := x3 + 1) (ls' := [some (.ref 56), some (.int x1), some (.int x2), some (.int (x3 + 1)), some (.int x4), none, none]) dX12_bale_103 rfl (by decide) rfl rfl ?_
    refine zi_goto (tgt := 9) dX12_bale_106 (by decide) ?_
    refine zi_mask [true, true, true, true, false, true, true] rfl ?_
    exact K
  · have K := K.2 c1
    refine zi_aload_n dX12_bale_33 rfl rfl ?_
    refine zg_getF (k := 0) (v := .ref 57) dX12_bale_34 zc12 rfl (Nat.le_of_ble_eq_true rfl) (Nat.le_of_ble_eq_true rfl) u_806 rfl (rfl) ?_
    refine zi_iconst (v := 1) dX12_bale_37 (by decide) ?_
    refine zi_iload_n dX12_bale_38 rfl rfl ?_
    refine zi_iload dX12_bale_39 rfl ?_
    refine zi_callS (N := mX12_cellAt) (av := [.int 1, .int x3, .int x4]) (st := [.ref 57]) (R1 := (some (.int (zca 1 x3 x4)), zh b I L)) dX12_bale_41 okX12_cellAt u_899 u_900 arX12_cellAt rfl (Nat.le_of_ble_eq_true rfl) (kX12_cellAt _ _ _) hR ?_
    show zA G (d + 5) mX12_bale 44 [some (.ref 56), some (.int x1), some (.int x2), some (.int x3), some (.int x4), none, none] [.int (zca 1 x3 x4), .ref 57] (zh b I L) R
    have o2 := K.1
    have K := K.2
    refine zg_iaload dX12_bale_44 (rfl) (Nat.le_of_ble_eq_true rfl) o2 ?_
    refine zi_istore (ls' := [some (.ref 56), some (.int x1), some (.int x2), some (.int x3), some (.int x4), some (.int (I 57 (zx (zca 1 x3 x4)))), none]) dX12_bale_45 (by decide) rfl ?_
    refine zi_aload_n dX12_bale_47 rfl rfl ?_
    refine zg_getF (k := 0) (v := .ref 57) dX12_bale_48 zc12 rfl (Nat.le_of_ble_eq_true rfl) (Nat.le_of_ble_eq_true rfl) u_806 rfl (rfl) ?_
    refine zi_iconst (v := 1) dX12_bale_51 (by decide) ?_
    refine zi_iload_n dX12_bale_52 rfl rfl ?_
    refine zi_iload dX12_bale_53 rfl ?_
    refine zi_callS (N := mX12_cellAt) (av := [.int 1, .int x3, .int x4]) (st := [.ref 57]) (R1 := (some (.int (zca 1 x3 x4)), zh b I L)) dX12_bale_55 okX12_cellAt u_899 u_900 arX12_cellAt rfl (Nat.le_of_ble_eq_true rfl) (kX12_cellAt _ _ _) hR ?_
    show zA G (d + 5) mX12_bale 58 [some (.ref 56), some (.int x1), some (.int x2), some (.int x3), some (.int x4), some (.int (I 57 (zx (zca 1 x3 x4)))), none] [.int (zca 1 x3 x4), .ref 57] (zh b I L) R
    refine zi_iconst (v := 3) dX12_bale_58 (by decide) ?_
    have o3 := K.1
    have K := K.2
    refine zg_iastore dX12_bale_59 (rfl) (Nat.le_of_ble_eq_true rfl) o3 ?_
    refine zi_aload_n dX12_bale_60 rfl rfl ?_
    obtain ⟨r4, I5, h6, K⟩ := K
    refine zi_callV (N := mX12_harmOfAll) (av := []) (st := []) (R1 := (some (.int r4), zh b I5 L)) dX12_bale_61 okX12_harmOfAll u_1116 u_1118 s_47 zc12 (rfl) (Nat.le_of_ble_eq_true rfl) arX12_harmOfAll rfl (Nat.le_of_ble_eq_true rfl) (h6) hR ?_
    show zA G (d + 5) mX12_bale 64 [some (.ref 56), some (.int x1), some (.int x2), some (.int x3), some (.int x4), some (.int (I 57 (zx (zca 1 x3 x4)))), none] [.int r4] (zh b I5 L) R
    refine zi_istore (ls' := [some (.ref 56), some (.int x1), some (.int x2), some (.int x3), some (.int x4), some (.int (I 57 (zx (zca 1 x3 x4)))), some (.int r4)]) dX12_bale_64 (by decide) rfl ?_
    refine zi_aload_n dX12_bale_66 rfl rfl ?_
    refine zg_getF (k := 0) (v := .ref 57) dX12_bale_67 zc12 rfl (Nat.le_of_ble_eq_true rfl) (Nat.le_of_ble_eq_true rfl) u_806 rfl (rfl) ?_
    refine zi_iconst (v := 1) dX12_bale_70 (by decide) ?_
    refine zi_iload_n dX12_bale_71 rfl rfl ?_
    refine zi_iload dX12_bale_72 rfl ?_
    refine zi_callS (N := mX12_cellAt) (av := [.int 1, .int x3, .int x4]) (st := [.ref 57]) (R1 := (some (.int (zca 1 x3 x4)), zh b I5 L)) dX12_bale_74 okX12_cellAt u_899 u_900 arX12_cellAt rfl (Nat.le_of_ble_eq_true rfl) (kX12_cellAt _ _ _) hR ?_
    show zA G (d + 5) mX12_bale 77 [some (.ref 56), some (.int x1), some (.int x2), some (.int x3), some (.int x4), some (.int (I 57 (zx (zca 1 x3 x4)))), some (.int r4)] [.int (zca 1 x3 x4), .ref 57] (zh b I5 L) R
    refine zi_iload dX12_bale_77 rfl ?_
    have o7 := K.1
    have K := K.2
    refine zg_iastore dX12_bale_79 (rfl) (Nat.le_of_ble_eq_true rfl) o7 ?_
    refine zi_iload dX12_bale_80 rfl ?_
    refine zi_iload_n dX12_bale_82 rfl rfl ?_
    refine zi_icmp_ge (tgt := 97) dX12_bale_83 (by decide) (fun c8 => ?_) (fun c8 => ?_)
    · have K := K.1 c8
      refine zi_iinc (v := x4 + 1) (ls' := [some (.ref 56), some (.int x1), some (.int x2), some (.int x3), some (.int (x4 + 1)), some (.int (I 57 (zx (zca 1 x3 x4)))), some (.int r4)]) dX12_bale_97 rfl (by decide) rfl rfl ?_
      refine zi_goto (tgt := 22) dX12_bale_100 (by decide) ?_
      refine zi_mask [true, true, true, true, true, false, false] rfl ?_
      exact K
    · have K := K.2 c8
      refine zi_bipush (v := 10) dX12_bale_86 (by decide) ?_
      refine zi_iload_n dX12_bale_88 rfl rfl ?_
      refine zi_imul dX12_bale_89 ?_
      refine zi_iload dX12_bale_90 rfl ?_
      refine zi_iadd dX12_bale_92 ?_
      refine zi_istore_n (ls' := [some (.ref 56), some (.int x1), some (.int ((10 * x3) + x4)), some (.int x3), some (.int x4), some (.int (I 57 (zx (zca 1 x3 x4)))), some (.int r4)]) dX12_bale_93 rfl (by decide) rfl ?_
      refine zi_iload dX12_bale_94 rfl ?_
      refine zi_istore_n (ls' := [some (.ref 56), some (.int r4), some (.int ((10 * x3) + x4)), some (.int x3), some (.int x4), some (.int (I 57 (zx (zca 1 x3 x4)))), some (.int r4)]) dX12_bale_96 rfl (by decide) rfl ?_
      refine zi_iinc (v := x4 + 1) (ls' := [some (.ref 56), some (.int r4), some (.int ((10 * x3) + x4)), some (.int x3), some (.int (x4 + 1)), some (.int (I 57 (zx (zca 1 x3 x4)))), some (.int r4)]) dX12_bale_97 rfl (by decide) rfl rfl ?_
      refine zi_goto (tgt := 22) dX12_bale_100 (by decide) ?_
      refine zi_mask [true, true, true, true, true, false, false] rfl ?_
      exact K
set_option maxRecDepth 100000 in
theorem tX12_run_0 {G : zG} {d b : Nat} {I : Nat → Nat → Int32} {L : Nat → Nat → Int64} {R : zR}  (hR : zR0 R)
    (K : ((¬ (I 57 2) = 0 → (∃ (r2 : Int32) (I3 : Nat → Nat → Int32), zCall (d + 6) mX12_place [.ref 56, .int 0] (zh b I L) (some (.int r2), zh b I3 L) ∧ zA G (d + 7) mX12_run 24 [some (.ref 56), some (.int r2), some (.int 0), none] [] (zh b I3 L) R)) ∧ ((I 57 2) = 0 → (∃ (r5 : Int32) (I6 : Nat → Nat → Int32), zCall (d + 6) mX12_refuse [.ref 56, .int (-3)] (zh b I L) (some (.int r5), zh b I6 L) ∧ R = (some (.int r5), zh b I6 L))))) :
    zA G (d + 7) mX12_run 0 [some (.ref 56), none, none, none] [] (zh b I L) R := by
  refine zi_aload_n dX12_run_0 rfl rfl ?_
  refine zg_getF (k := 0) (v := .ref 57) dX12_run_1 zc12 rfl (Nat.le_of_ble_eq_true rfl) (Nat.le_of_ble_eq_true rfl) u_806 rfl (rfl) ?_
  refine zi_iconst (v := 2) dX12_run_4 (by decide) ?_
  refine zg_iaload dX12_run_5 (rfl) (Nat.le_of_ble_eq_true rfl) (zvi (by decide)) ?_
  show zA G (d + 7) mX12_run 6 [some (.ref 56), none, none, none] [.int (I 57 2)] (zh b I L) R
  refine zi_if_ne (tgt := 16) dX12_run_6 (by decide) (fun c1 => ?_) (fun c1 => ?_)
  · have K := K.1 c1
    refine zi_aload_n dX12_run_16 rfl rfl ?_
    refine zi_iconst (v := 0) dX12_run_17 (by decide) ?_
    obtain ⟨r2, I3, h4, K⟩ := K
    refine zi_callV (N := mX12_place) (av := [.int 0]) (st := []) (R1 := (some (.int r2), zh b I3 L)) dX12_run_18 okX12_place u_1124 u_1047 u_1048 zc12 (rfl) (Nat.le_of_ble_eq_true rfl) arX12_place rfl (Nat.le_of_ble_eq_true rfl) (h4) hR ?_
    show zA G (d + 7) mX12_run 21 [some (.ref 56), none, none, none] [.int r2] (zh b I3 L) R
    refine zi_istore_n (ls' := [some (.ref 56), some (.int r2), none, none]) dX12_run_21 rfl (by decide) rfl ?_
    refine zi_iconst (v := 0) dX12_run_22 (by decide) ?_
    refine zi_istore_n (ls' := [some (.ref 56), some (.int r2), some (.int 0), none]) dX12_run_23 rfl (by decide) rfl ?_
    exact K
  · have K := K.2 c1
    refine zi_aload_n dX12_run_9 rfl rfl ?_
    refine zi_bipush (v := (-3)) dX12_run_10 (by decide) ?_
    obtain ⟨r5, I6, h7, K⟩ := K
    refine zi_callV (N := mX12_refuse) (av := [.int (-3)]) (st := []) (R1 := (some (.int r5), zh b I6 L)) dX12_run_12 okX12_refuse u_886 u_888 s_23 zc12 (rfl) (Nat.le_of_ble_eq_true rfl) arX12_refuse rfl (Nat.le_of_ble_eq_true rfl) (h7) hR ?_
    show zA G (d + 7) mX12_run 15 [some (.ref 56), none, none, none] [.int r5] (zh b I6 L) R
    subst K
    exact zi_ireturn dX12_run_15 rfl rfl
set_option maxRecDepth 100000 in
theorem tX12_run_24 {G : zG} {d b : Nat} {I : Nat → Nat → Int32} {L : Nat → Nat → Int64} {R : zR} {x1 : Int32} {x2 : Int32}
    (K : ((48 ≤ x2 → zA G (d + 7) mX12_run 45 [some (.ref 56), some (.int x1), some (.int 0), none] [] (zh b I L) R) ∧ (¬ 48 ≤ x2 → (vp_in x2 48 ∧ zA G (d + 7) mX12_run 24 [some (.ref 56), some (.int x1), some (.int (x2 + 1)), none] [] (zh b (zup I 72 (zx x2) 0) L) R)))) :
    zA G (d + 7) mX12_run 24 [some (.ref 56), some (.int x1), some (.int x2), none] [] (zh b I L) R := by
  refine zi_iload_n dX12_run_24 rfl rfl ?_
  refine zi_bipush (v := 48) dX12_run_25 (by decide) ?_
  refine zi_icmp_ge (tgt := 43) dX12_run_27 (by decide) (fun c1 => ?_) (fun c1 => ?_)
  · have K := K.1 c1
    refine zi_iconst (v := 0) dX12_run_43 (by decide) ?_
    refine zi_istore_n (ls' := [some (.ref 56), some (.int x1), some (.int 0), none]) dX12_run_44 rfl (by decide) rfl ?_
    exact K
  · have K := K.2 c1
    refine zi_aload_n dX12_run_30 rfl rfl ?_
    refine zg_getF (k := 22) (v := .ref 72) dX12_run_31 zc12 rfl (Nat.le_of_ble_eq_true rfl) (Nat.le_of_ble_eq_true rfl) u_828 rfl (rfl) ?_
    refine zi_iload_n dX12_run_34 rfl rfl ?_
    refine zi_iconst (v := 0) dX12_run_35 (by decide) ?_
    have o2 := K.1
    have K := K.2
    refine zg_iastore dX12_run_36 (rfl) (Nat.le_of_ble_eq_true rfl) o2 ?_
    refine zi_iinc (v := x2 + 1) (ls' := [some (.ref 56), some (.int x1), some (.int (x2 + 1)), none]) dX12_run_37 rfl (by decide) rfl rfl ?_
    refine zi_goto (tgt := 24) dX12_run_40 (by decide) ?_
    exact K
set_option maxRecDepth 100000 in
theorem tX12_run_45 {G : zG} {d b : Nat} {I : Nat → Nat → Int32} {L : Nat → Nat → Int64} {R : zR} {x1 : Int32} {x2 : Int32} (hR : zR0 R)
    (K : (((I 57 2) ≤ x2 → ((¬ (I 57 4) = 6 → zA G (d + 7) mX12_run 162 [some (.ref 56), some (.int x1), some (.int 0), none] [] (zh b I L) R) ∧ ((I 57 4) = 6 → zA G (d + 7) mX12_run 117 [some (.ref 56), some (.int x1), some (.int 0), none] [] (zh b I L) R))) ∧ (¬ (I 57 2) ≤ x2 → (∃ (I3 : Nat → Nat → Int32), zCall (d + 6) mX12_walks [.ref 56, .int x2] (zh b I L) (none, zh b I3 L) ∧ zA G (d + 7) mX12_run 62 [some (.ref 56), some (.int x1), some (.int x2), some (.int 0)] [] (zh b I3 L) R)))) :
    zA G (d + 7) mX12_run 45 [some (.ref 56), some (.int x1), some (.int x2), none] [] (zh b I L) R := by
  refine zi_iload_n dX12_run_45 rfl rfl ?_
  refine zi_aload_n dX12_run_46 rfl rfl ?_
  refine zg_getF (k := 0) (v := .ref 57) dX12_run_47 zc12 rfl (Nat.le_of_ble_eq_true rfl) (Nat.le_of_ble_eq_true rfl) u_806 rfl (rfl) ?_
  refine zi_iconst (v := 2) dX12_run_50 (by decide) ?_
  refine zg_iaload dX12_run_51 (rfl) (Nat.le_of_ble_eq_true rfl) (zvi (by decide)) ?_
  show zA G (d + 7) mX12_run 52 [some (.ref 56), some (.int x1), some (.int x2), none] [.int (I 57 2), .int x2] (zh b I L) R
  refine zi_icmp_ge (tgt := 104) dX12_run_52 (by decide) (fun c1 => ?_) (fun c1 => ?_)
  · have K := K.1 c1
    refine zi_aload_n dX12_run_104 rfl rfl ?_
    refine zg_getF (k := 0) (v := .ref 57) dX12_run_105 zc12 rfl (Nat.le_of_ble_eq_true rfl) (Nat.le_of_ble_eq_true rfl) u_806 rfl (rfl) ?_
    refine zi_iconst (v := 4) dX12_run_108 (by decide) ?_
    refine zg_iaload dX12_run_109 (rfl) (Nat.le_of_ble_eq_true rfl) (zvi (by decide)) ?_
    show zA G (d + 7) mX12_run 110 [some (.ref 56), some (.int x1), some (.int x2), none] [.int (I 57 4)] (zh b I L) R
    refine zi_bipush (v := 6) dX12_run_110 (by decide) ?_
    refine zi_icmp_ne (tgt := 160) dX12_run_112 (by decide) (fun c2 => ?_) (fun c2 => ?_)
    · have K := K.1 c2
      refine zi_iconst (v := 0) dX12_run_160 (by decide) ?_
      refine zi_istore_n (ls' := [some (.ref 56), some (.int x1), some (.int 0), none]) dX12_run_161 rfl (by decide) rfl ?_
      exact K
    · have K := K.2 c2
      refine zi_iconst (v := 0) dX12_run_115 (by decide) ?_
      refine zi_istore_n (ls' := [some (.ref 56), some (.int x1), some (.int 0), none]) dX12_run_116 rfl (by decide) rfl ?_
      exact K
  · have K := K.2 c1
    refine zi_aload_n dX12_run_55 rfl rfl ?_
    refine zi_iload_n dX12_run_56 rfl rfl ?_
    obtain ⟨I3, h4, K⟩ := K
    refine zi_callV (N := mX12_walks) (av := [.int x2]) (st := []) (R1 := (none, zh b I3 L)) dX12_run_57 okX12_walks u_1000 u_1002 s_34 zc12 (rfl) (Nat.le_of_ble_eq_true rfl) arX12_walks rfl (Nat.le_of_ble_eq_true rfl) (h4) hR ?_
    show zA G (d + 7) mX12_run 60 [some (.ref 56), some (.int x1), some (.int x2), none] [] (zh b I3 L) R
    refine zi_iconst (v := 0) dX12_run_60 (by decide) ?_
    refine zi_istore_n (ls' := [some (.ref 56), some (.int x1), some (.int x2), some (.int 0)]) dX12_run_61 rfl (by decide) rfl ?_
    exact K
set_option maxRecDepth 100000 in
theorem tX12_run_62 {G : zG} {d b : Nat} {I : Nat → Nat → Int32} {L : Nat → Nat → Int64} {R : zR} {x1 : Int32} {x2 : Int32} {x3 : Int32}
    (K : (((I 57 0) ≤ x3 → zA G (d + 7) mX12_run 45 [some (.ref 56), some (.int x1), some (.int (x2 + 1)), none] [] (zh b I L) R) ∧ (¬ (I 57 0) ≤ x3 → (vp_in x3 9 ∧ (vp_in ((6 * x3) + (I 63 (zx x3))) 48 ∧ (vp_in ((6 * x3) + (I 63 (zx x3))) 48 ∧ zA G (d + 7) mX12_run 62 [some (.ref 56), some (.int x1), some (.int x2), some (.int (x3 + 1))] [] (zh b (zup I 72 (zx ((6 * x3) + (I 63 (zx x3)))) ((I 72 (zx ((6 * x3) + (I 63 (zx x3))))) + 1)) L) R)))))) :
    zA G (d + 7) mX12_run 62 [some (.ref 56), some (.int x1), some (.int x2), some (.int x3)] [] (zh b I L) R := by
  refine zi_iload_n dX12_run_62 rfl rfl ?_
  refine zi_aload_n dX12_run_63 rfl rfl ?_
  refine zg_getF (k := 0) (v := .ref 57) dX12_run_64 zc12 rfl (Nat.le_of_ble_eq_true rfl) (Nat.le_of_ble_eq_true rfl) u_806 rfl (rfl) ?_
  refine zi_iconst (v := 0) dX12_run_67 (by decide) ?_
  refine zg_iaload dX12_run_68 (rfl) (Nat.le_of_ble_eq_true rfl) (zvi (by decide)) ?_
  show zA G (d + 7) mX12_run 69 [some (.ref 56), some (.int x1), some (.int x2), some (.int x3)] [.int (I 57 0), .int x3] (zh b I L) R
  refine zi_icmp_ge (tgt := 98) dX12_run_69 (by decide) (fun c1 => ?_) (fun c1 => ?_)
  · have K := K.1 c1
    refine zi_iinc (v := x2 + 1) (ls' := [some (.ref 56), some (.int x1), some (.int (x2 + 1)), some (.int x3)]) dX12_run_98 rfl (by decide) rfl rfl ?_
    refine zi_goto (tgt := 45) dX12_run_101 (by decide) ?_
    refine zi_mask [true, true, true, false] rfl ?_
    exact K
  · have K := K.2 c1
    refine zi_aload_n dX12_run_72 rfl rfl ?_
    refine zg_getF (k := 22) (v := .ref 72) dX12_run_73 zc12 rfl (Nat.le_of_ble_eq_true rfl) (Nat.le_of_ble_eq_true rfl) u_828 rfl (rfl) ?_
    refine zi_bipush (v := 6) dX12_run_76 (by decide) ?_
    refine zi_iload_n dX12_run_78 rfl rfl ?_
    refine zi_imul dX12_run_79 ?_
    refine zi_aload_n dX12_run_80 rfl rfl ?_
    refine zg_getF (k := 13) (v := .ref 63) dX12_run_81 zc12 rfl (Nat.le_of_ble_eq_true rfl) (Nat.le_of_ble_eq_true rfl) u_819 rfl (rfl) ?_
    refine zi_iload_n dX12_run_84 rfl rfl ?_
    have o2 := K.1
    have K := K.2
    refine zg_iaload dX12_run_85 (rfl) (Nat.le_of_ble_eq_true rfl) o2 ?_
    refine zi_iadd dX12_run_86 ?_
    refine zi_dup2 dX12_run_87 rfl rfl ?_
    have o3 := K.1
    have K := K.2
    refine zg_iaload dX12_run_88 (rfl) (Nat.le_of_ble_eq_true rfl) o3 ?_
    refine zi_iconst (v := 1) dX12_run_89 (by decide) ?_
    refine zi_iadd dX12_run_90 ?_
    have o4 := K.1
    have K := K.2
    refine zg_iastore dX12_run_91 (rfl) (Nat.le_of_ble_eq_true rfl) o4 ?_
    refine zi_iinc (v := x3 + 1) (ls' := [some (.ref 56), some (.int x1), some (.int x2), some (.int (x3 + 1))]) dX12_run_92 rfl (by decide) rfl rfl ?_
    refine zi_goto (tgt := 62) dX12_run_95 (by decide) ?_
    exact K
set_option maxRecDepth 100000 in
theorem tX12_run_117 {G : zG} {d b : Nat} {I : Nat → Nat → Int32} {L : Nat → Nat → Int64} {R : zR} {x1 : Int32} {x2 : Int32}
    (K : ((240 ≤ x2 → zA G (d + 7) mX12_run 162 [some (.ref 56), some (.int x1), some (.int 0), none] [] (zh b (zup I 57 4 ((I 57 4) - 1)) L) R) ∧ (¬ 240 ≤ x2 → (vp_in (223 + x2) 463 ∧ (vp_in (175 + x2) 463 ∧ zA G (d + 7) mX12_run 117 [some (.ref 56), some (.int x1), some (.int (x2 + 1)), none] [] (zh b (zup I 57 (zx (175 + x2)) (I 57 (zx (223 + x2)))) L) R))))) :
    zA G (d + 7) mX12_run 117 [some (.ref 56), some (.int x1), some (.int x2), none] [] (zh b I L) R := by
  refine zi_iload_n dX12_run_117 rfl rfl ?_
  refine zi_sipush (v := 240) dX12_run_118 (by decide) ?_
  refine zi_icmp_ge (tgt := 150) dX12_run_121 (by decide) (fun c1 => ?_) (fun c1 => ?_)
  · have K := K.1 c1
    refine zi_aload_n dX12_run_150 rfl rfl ?_
    refine zg_getF (k := 0) (v := .ref 57) dX12_run_151 zc12 rfl (Nat.le_of_ble_eq_true rfl) (Nat.le_of_ble_eq_true rfl) u_806 rfl (rfl) ?_
    refine zi_iconst (v := 4) dX12_run_154 (by decide) ?_
    refine zi_dup2 dX12_run_155 rfl rfl ?_
    refine zg_iaload dX12_run_156 (rfl) (Nat.le_of_ble_eq_true rfl) (zvi (by decide)) ?_
    show zA G (d + 7) mX12_run 157 [some (.ref 56), some (.int x1), some (.int x2), none] [.int (I 57 4), .int 4, .ref 57] (zh b I L) R
    refine zi_iconst (v := 1) dX12_run_157 (by decide) ?_
    refine zi_isub dX12_run_158 ?_
    refine zg_iastore dX12_run_159 (rfl) (Nat.le_of_ble_eq_true rfl) (zvi (by decide)) ?_
    show zA G (d + 7) mX12_run 160 [some (.ref 56), some (.int x1), some (.int x2), none] [] (zh b (zup I 57 4 ((I 57 4) - 1)) L) R
    refine zi_iconst (v := 0) dX12_run_160 (by decide) ?_
    refine zi_istore_n (ls' := [some (.ref 56), some (.int x1), some (.int 0), none]) dX12_run_161 rfl (by decide) rfl ?_
    exact K
  · have K := K.2 c1
    refine zi_aload_n dX12_run_124 rfl rfl ?_
    refine zg_getF (k := 0) (v := .ref 57) dX12_run_125 zc12 rfl (Nat.le_of_ble_eq_true rfl) (Nat.le_of_ble_eq_true rfl) u_806 rfl (rfl) ?_
    refine zi_sipush (v := 175) dX12_run_128 (by decide) ?_
    refine zi_iload_n dX12_run_131 rfl rfl ?_
    refine zi_iadd dX12_run_132 ?_
    refine zi_aload_n dX12_run_133 rfl rfl ?_
    refine zg_getF (k := 0) (v := .ref 57) dX12_run_134 zc12 rfl (Nat.le_of_ble_eq_true rfl) (Nat.le_of_ble_eq_true rfl) u_806 rfl (rfl) ?_
    refine zi_sipush (v := 223) dX12_run_137 (by decide) ?_
    refine zi_iload_n dX12_run_140 rfl rfl ?_
    refine zi_iadd dX12_run_141 ?_
    have o2 := K.1
    have K := K.2
    refine zg_iaload dX12_run_142 (rfl) (Nat.le_of_ble_eq_true rfl) o2 ?_
    have o3 := K.1
    have K := K.2
    refine zg_iastore dX12_run_143 (rfl) (Nat.le_of_ble_eq_true rfl) o3 ?_
    refine zi_iinc (v := x2 + 1) (ls' := [some (.ref 56), some (.int x1), some (.int (x2 + 1)), none]) dX12_run_144 rfl (by decide) rfl rfl ?_
    refine zi_goto (tgt := 117) dX12_run_147 (by decide) ?_
    exact K
set_option maxRecDepth 100000 in
theorem tX12_run_162 {G : zG} {d b : Nat} {I : Nat → Nat → Int32} {L : Nat → Nat → Int64} {R : zR} {x1 : Int32} {x2 : Int32}
    (K : ((48 ≤ x2 → R = (some (.int x1), zh b (zup I 57 4 ((I 57 4) + 1)) L)) ∧ (¬ 48 ≤ x2 → (vp_in (5 + x2) 463 ∧ (vp_in ((175 + (48 * (I 57 4))) + x2) 463 ∧ (vp_in (5 + x2) 463 ∧ (vp_in x2 48 ∧ ((((zup I 57 (zx ((175 + (48 * (I 57 4))) + x2)) (I 57 (zx (5 + x2)))) 72 (zx x2)) ≤ 1 → (vp_in (5 + x2) 463 ∧ (∀ I8 : Nat → Nat → Int32, I8 = (zup I 57 (zx ((175 + (48 * (I 57 4))) + x2)) (I 57 (zx (5 + x2)))) → zA G (d + 7) mX12_run 162 [some (.ref 56), some (.int x1), some (.int (x2 + 1)), none] [] (zh b (zup I8 57 (zx (5 + x2)) (((zup I 57 (zx ((175 + (48 * (I 57 4))) + x2)) (I 57 (zx (5 + x2)))) 57 (zx (5 + x2))) + 0)) L) R))) ∧ (¬ ((zup I 57 (zx ((175 + (48 * (I 57 4))) + x2)) (I 57 (zx (5 + x2)))) 72 (zx x2)) ≤ 1 → (vp_in (5 + x2) 463 ∧ ((9 ≤ ((zup I 57 (zx ((175 + (48 * (I 57 4))) + x2)) (I 57 (zx (5 + x2)))) 57 (zx (5 + x2))) → (vp_in (5 + x2) 463 ∧ (∀ I12 : Nat → Nat → Int32, I12 = (zup I 57 (zx ((175 + (48 * (I 57 4))) + x2)) (I 57 (zx (5 + x2)))) → zA G (d + 7) mX12_run 162 [some (.ref 56), some (.int x1), some (.int (x2 + 1)), none] [] (zh b (zup I12 57 (zx (5 + x2)) (((zup I 57 (zx ((175 + (48 * (I 57 4))) + x2)) (I 57 (zx (5 + x2)))) 57 (zx (5 + x2))) + 0)) L) R))) ∧ (¬ 9 ≤ ((zup I 57 (zx ((175 + (48 * (I 57 4))) + x2)) (I 57 (zx (5 + x2)))) 57 (zx (5 + x2))) → (vp_in (5 + x2) 463 ∧ (∀ I14 : Nat → Nat → Int32, I14 = (zup I 57 (zx ((175 + (48 * (I 57 4))) + x2)) (I 57 (zx (5 + x2)))) → zA G (d + 7) mX12_run 162 [some (.ref 56), some (.int x1), some (.int (x2 + 1)), none] [] (zh b (zup I14 57 (zx (5 + x2)) (((zup I 57 (zx ((175 + (48 * (I 57 4))) + x2)) (I 57 (zx (5 + x2)))) 57 (zx (5 + x2))) + 1)) L) R)))))))))))))) :
    zA G (d + 7) mX12_run 162 [some (.ref 56), some (.int x1), some (.int x2), none] [] (zh b I L) R := by
  refine zi_iload_n dX12_run_162 rfl rfl ?_
  refine zi_bipush (v := 48) dX12_run_163 (by decide) ?_
  refine zi_icmp_ge (tgt := 241) dX12_run_165 (by decide) (fun c1 => ?_) (fun c1 => ?_)
  · have K := K.1 c1
    refine zi_aload_n dX12_run_241 rfl rfl ?_
    refine zg_getF (k := 0) (v := .ref 57) dX12_run_242 zc12 rfl (Nat.le_of_ble_eq_true rfl) (Nat.le_of_ble_eq_true rfl) u_806 rfl (rfl) ?_
    refine zi_iconst (v := 4) dX12_run_245 (by decide) ?_
    refine zi_dup2 dX12_run_246 rfl rfl ?_
    refine zg_iaload dX12_run_247 (rfl) (Nat.le_of_ble_eq_true rfl) (zvi (by decide)) ?_
    show zA G (d + 7) mX12_run 248 [some (.ref 56), some (.int x1), some (.int x2), none] [.int (I 57 4), .int 4, .ref 57] (zh b I L) R
    refine zi_iconst (v := 1) dX12_run_248 (by decide) ?_
    refine zi_iadd dX12_run_249 ?_
    refine zg_iastore dX12_run_250 (rfl) (Nat.le_of_ble_eq_true rfl) (zvi (by decide)) ?_
    show zA G (d + 7) mX12_run 251 [some (.ref 56), some (.int x1), some (.int x2), none] [] (zh b (zup I 57 4 ((I 57 4) + 1)) L) R
    refine zi_iload_n dX12_run_251 rfl rfl ?_
    subst K
    exact zi_ireturn dX12_run_252 rfl rfl
  · have K := K.2 c1
    refine zi_aload_n dX12_run_168 rfl rfl ?_
    refine zg_getF (k := 0) (v := .ref 57) dX12_run_169 zc12 rfl (Nat.le_of_ble_eq_true rfl) (Nat.le_of_ble_eq_true rfl) u_806 rfl (rfl) ?_
    refine zi_sipush (v := 175) dX12_run_172 (by decide) ?_
    refine zi_bipush (v := 48) dX12_run_175 (by decide) ?_
    refine zi_aload_n dX12_run_177 rfl rfl ?_
    refine zg_getF (k := 0) (v := .ref 57) dX12_run_178 zc12 rfl (Nat.le_of_ble_eq_true rfl) (Nat.le_of_ble_eq_true rfl) u_806 rfl (rfl) ?_
    refine zi_iconst (v := 4) dX12_run_181 (by decide) ?_
    refine zg_iaload dX12_run_182 (rfl) (Nat.le_of_ble_eq_true rfl) (zvi (by decide)) ?_
    show zA G (d + 7) mX12_run 183 [some (.ref 56), some (.int x1), some (.int x2), none] [.int (I 57 4), .int 48, .int 175, .ref 57] (zh b I L) R
    refine zi_imul dX12_run_183 ?_
    refine zi_iadd dX12_run_184 ?_
    refine zi_iload_n dX12_run_185 rfl rfl ?_
    refine zi_iadd dX12_run_186 ?_
    refine zi_aload_n dX12_run_187 rfl rfl ?_
    refine zg_getF (k := 0) (v := .ref 57) dX12_run_188 zc12 rfl (Nat.le_of_ble_eq_true rfl) (Nat.le_of_ble_eq_true rfl) u_806 rfl (rfl) ?_
    refine zi_iconst (v := 5) dX12_run_191 (by decide) ?_
    refine zi_iload_n dX12_run_192 rfl rfl ?_
    refine zi_iadd dX12_run_193 ?_
    have o2 := K.1
    have K := K.2
    refine zg_iaload dX12_run_194 (rfl) (Nat.le_of_ble_eq_true rfl) o2 ?_
    have o3 := K.1
    have K := K.2
    refine zg_iastore dX12_run_195 (rfl) (Nat.le_of_ble_eq_true rfl) o3 ?_
    refine zi_aload_n dX12_run_196 rfl rfl ?_
    refine zg_getF (k := 0) (v := .ref 57) dX12_run_197 zc12 rfl (Nat.le_of_ble_eq_true rfl) (Nat.le_of_ble_eq_true rfl) u_806 rfl (rfl) ?_
    refine zi_iconst (v := 5) dX12_run_200 (by decide) ?_
    refine zi_iload_n dX12_run_201 rfl rfl ?_
    refine zi_iadd dX12_run_202 ?_
    refine zi_dup2 dX12_run_203 rfl rfl ?_
    have o4 := K.1
    have K := K.2
    refine zg_iaload dX12_run_204 (rfl) (Nat.le_of_ble_eq_true rfl) o4 ?_
    refine zi_aload_n dX12_run_205 rfl rfl ?_
    refine zg_getF (k := 22) (v := .ref 72) dX12_run_206 zc12 rfl (Nat.le_of_ble_eq_true rfl) (Nat.le_of_ble_eq_true rfl) u_828 rfl (rfl) ?_
    refine zi_iload_n dX12_run_209 rfl rfl ?_
    have o5 := K.1
    have K := K.2
    refine zg_iaload dX12_run_210 (rfl) (Nat.le_of_ble_eq_true rfl) o5 ?_
    refine zi_iconst (v := 1) dX12_run_211 (by decide) ?_
    refine zi_icmp_le (tgt := 232) dX12_run_212 (by decide) (fun c6 => ?_) (fun c6 => ?_)
    · have K := K.1 c6
      refine zi_iconst (v := 0) dX12_run_232 (by decide) ?_
      refine zi_iadd dX12_run_233 ?_
      have o7 := K.1
      have K := K.2
      refine zi_name (fun I8 hI8 => ?_)
      have K := K I8 hI8
      refine zg_iastore dX12_run_234 (rfl) (Nat.le_of_ble_eq_true rfl) o7 ?_
      refine zi_iinc (v := x2 + 1) (ls' := [some (.ref 56), some (.int x1), some (.int (x2 + 1)), none]) dX12_run_235 rfl (by decide) rfl rfl ?_
      refine zi_goto (tgt := 162) dX12_run_238 (by decide) ?_
      exact K
    · have K := K.2 c6
      refine zi_aload_n dX12_run_215 rfl rfl ?_
      refine zg_getF (k := 0) (v := .ref 57) dX12_run_216 zc12 rfl (Nat.le_of_ble_eq_true rfl) (Nat.le_of_ble_eq_true rfl) u_806 rfl (rfl) ?_
      refine zi_iconst (v := 5) dX12_run_219 (by decide) ?_
      refine zi_iload_n dX12_run_220 rfl rfl ?_
      refine zi_iadd dX12_run_221 ?_
      have o9 := K.1
      have K := K.2
      refine zg_iaload dX12_run_222 (rfl) (Nat.le_of_ble_eq_true rfl) o9 ?_
      refine zi_bipush (v := 9) dX12_run_223 (by decide) ?_
      refine zi_icmp_ge (tgt := 232) dX12_run_225 (by decide) (fun c10 => ?_) (fun c10 => ?_)
      · have K := K.1 c10
        refine zi_iconst (v := 0) dX12_run_232 (by decide) ?_
        refine zi_iadd dX12_run_233 ?_
        have o11 := K.1
        have K := K.2
        refine zi_name (fun I12 hI12 => ?_)
        have K := K I12 hI12
        refine zg_iastore dX12_run_234 (rfl) (Nat.le_of_ble_eq_true rfl) o11 ?_
        refine zi_iinc (v := x2 + 1) (ls' := [some (.ref 56), some (.int x1), some (.int (x2 + 1)), none]) dX12_run_235 rfl (by decide) rfl rfl ?_
        refine zi_goto (tgt := 162) dX12_run_238 (by decide) ?_
        exact K
      · have K := K.2 c10
        refine zi_iconst (v := 1) dX12_run_228 (by decide) ?_
        refine zi_goto (tgt := 233) dX12_run_229 (by decide) ?_
        refine zi_iadd dX12_run_233 ?_
        have o13 := K.1
        have K := K.2
        refine zi_name (fun I14 hI14 => ?_)
        have K := K I14 hI14
        refine zg_iastore dX12_run_234 (rfl) (Nat.le_of_ble_eq_true rfl) o13 ?_
        refine zi_iinc (v := x2 + 1) (ls' := [some (.ref 56), some (.int x1), some (.int (x2 + 1)), none]) dX12_run_235 rfl (by decide) rfl rfl ?_
        refine zi_goto (tgt := 162) dX12_run_238 (by decide) ?_
        exact K
set_option maxRecDepth 100000 in
theorem tX12_undo_0 {G : zG} {d b : Nat} {I : Nat → Nat → Int32} {L : Nat → Nat → Int64} {R : zR}  (hR : zR0 R)
    (K : ((¬ (I 57 4) = 0 → zA G (d + 1) mX12_undo 28 [some (.ref 56), some (.int 0)] [] (zh b (zup I 57 4 ((I 57 4) - 1)) L) R) ∧ ((I 57 4) = 0 → (∃ (r2 : Int32) (I3 : Nat → Nat → Int32), zCall d mX12_refuse [.ref 56, .int (-3)] (zh b I L) (some (.int r2), zh b I3 L) ∧ R = (some (.int r2), zh b I3 L))))) :
    zA G (d + 1) mX12_undo 0 [some (.ref 56), none] [] (zh b I L) R := by
  refine zi_aload_n dX12_undo_0 rfl rfl ?_
  refine zg_getF (k := 0) (v := .ref 57) dX12_undo_1 zc12 rfl (Nat.le_of_ble_eq_true rfl) (Nat.le_of_ble_eq_true rfl) u_806 rfl (rfl) ?_
  refine zi_iconst (v := 4) dX12_undo_4 (by decide) ?_
  refine zg_iaload dX12_undo_5 (rfl) (Nat.le_of_ble_eq_true rfl) (zvi (by decide)) ?_
  show zA G (d + 1) mX12_undo 6 [some (.ref 56), none] [.int (I 57 4)] (zh b I L) R
  refine zi_if_ne (tgt := 16) dX12_undo_6 (by decide) (fun c1 => ?_) (fun c1 => ?_)
  · have K := K.1 c1
    refine zi_aload_n dX12_undo_16 rfl rfl ?_
    refine zg_getF (k := 0) (v := .ref 57) dX12_undo_17 zc12 rfl (Nat.le_of_ble_eq_true rfl) (Nat.le_of_ble_eq_true rfl) u_806 rfl (rfl) ?_
    refine zi_iconst (v := 4) dX12_undo_20 (by decide) ?_
    refine zi_dup2 dX12_undo_21 rfl rfl ?_
    refine zg_iaload dX12_undo_22 (rfl) (Nat.le_of_ble_eq_true rfl) (zvi (by decide)) ?_
    show zA G (d + 1) mX12_undo 23 [some (.ref 56), none] [.int (I 57 4), .int 4, .ref 57] (zh b I L) R
    refine zi_iconst (v := 1) dX12_undo_23 (by decide) ?_
    refine zi_isub dX12_undo_24 ?_
    refine zg_iastore dX12_undo_25 (rfl) (Nat.le_of_ble_eq_true rfl) (zvi (by decide)) ?_
    show zA G (d + 1) mX12_undo 26 [some (.ref 56), none] [] (zh b (zup I 57 4 ((I 57 4) - 1)) L) R
    refine zi_iconst (v := 0) dX12_undo_26 (by decide) ?_
    refine zi_istore_n (ls' := [some (.ref 56), some (.int 0)]) dX12_undo_27 rfl (by decide) rfl ?_
    exact K
  · have K := K.2 c1
    refine zi_aload_n dX12_undo_9 rfl rfl ?_
    refine zi_bipush (v := (-3)) dX12_undo_10 (by decide) ?_
    obtain ⟨r2, I3, h4, K⟩ := K
    refine zi_callV (N := mX12_refuse) (av := [.int (-3)]) (st := []) (R1 := (some (.int r2), zh b I3 L)) dX12_undo_12 okX12_refuse u_886 u_888 s_23 zc12 (rfl) (Nat.le_of_ble_eq_true rfl) arX12_refuse rfl (Nat.le_of_ble_eq_true rfl) (h4) hR ?_
    show zA G (d + 1) mX12_undo 15 [some (.ref 56), none] [.int r2] (zh b I3 L) R
    subst K
    exact zi_ireturn dX12_undo_15 rfl rfl
set_option maxRecDepth 100000 in
theorem tX12_undo_28 {G : zG} {d b : Nat} {I : Nat → Nat → Int32} {L : Nat → Nat → Int64} {R : zR} {x1 : Int32}
    (K : ((48 ≤ x1 → R = (some (.int 1), zh b I L)) ∧ (¬ 48 ≤ x1 → (vp_in ((175 + (48 * (I 57 4))) + x1) 463 ∧ (vp_in (5 + x1) 463 ∧ zA G (d + 1) mX12_undo 28 [some (.ref 56), some (.int (x1 + 1))] [] (zh b (zup I 57 (zx (5 + x1)) (I 57 (zx ((175 + (48 * (I 57 4))) + x1)))) L) R))))) :
    zA G (d + 1) mX12_undo 28 [some (.ref 56), some (.int x1)] [] (zh b I L) R := by
  refine zi_iload_n dX12_undo_28 rfl rfl ?_
  refine zi_bipush (v := 48) dX12_undo_29 (by decide) ?_
  refine zi_icmp_ge (tgt := 68) dX12_undo_31 (by decide) (fun c1 => ?_) (fun c1 => ?_)
  · have K := K.1 c1
    refine zi_iconst (v := 1) dX12_undo_68 (by decide) ?_
    subst K
    exact zi_ireturn dX12_undo_69 rfl rfl
  · have K := K.2 c1
    refine zi_aload_n dX12_undo_34 rfl rfl ?_
    refine zg_getF (k := 0) (v := .ref 57) dX12_undo_35 zc12 rfl (Nat.le_of_ble_eq_true rfl) (Nat.le_of_ble_eq_true rfl) u_806 rfl (rfl) ?_
    refine zi_iconst (v := 5) dX12_undo_38 (by decide) ?_
    refine zi_iload_n dX12_undo_39 rfl rfl ?_
    refine zi_iadd dX12_undo_40 ?_
    refine zi_aload_n dX12_undo_41 rfl rfl ?_
    refine zg_getF (k := 0) (v := .ref 57) dX12_undo_42 zc12 rfl (Nat.le_of_ble_eq_true rfl) (Nat.le_of_ble_eq_true rfl) u_806 rfl (rfl) ?_
    refine zi_sipush (v := 175) dX12_undo_45 (by decide) ?_
    refine zi_bipush (v := 48) dX12_undo_48 (by decide) ?_
    refine zi_aload_n dX12_undo_50 rfl rfl ?_
    refine zg_getF (k := 0) (v := .ref 57) dX12_undo_51 zc12 rfl (Nat.le_of_ble_eq_true rfl) (Nat.le_of_ble_eq_true rfl) u_806 rfl (rfl) ?_
    refine zi_iconst (v := 4) dX12_undo_54 (by decide) ?_
    refine zg_iaload dX12_undo_55 (rfl) (Nat.le_of_ble_eq_true rfl) (zvi (by decide)) ?_
    show zA G (d + 1) mX12_undo 56 [some (.ref 56), some (.int x1)] [.int (I 57 4), .int 48, .int 175, .ref 57, .int (5 + x1), .ref 57] (zh b I L) R
    refine zi_imul dX12_undo_56 ?_
    refine zi_iadd dX12_undo_57 ?_
    refine zi_iload_n dX12_undo_58 rfl rfl ?_
    refine zi_iadd dX12_undo_59 ?_
    have o2 := K.1
    have K := K.2
    refine zg_iaload dX12_undo_60 (rfl) (Nat.le_of_ble_eq_true rfl) o2 ?_
    have o3 := K.1
    have K := K.2
    refine zg_iastore dX12_undo_61 (rfl) (Nat.le_of_ble_eq_true rfl) o3 ?_
    refine zi_iinc (v := x1 + 1) (ls' := [some (.ref 56), some (.int (x1 + 1))]) dX12_undo_62 rfl (by decide) rfl rfl ?_
    refine zi_goto (tgt := 28) dX12_undo_65 (by decide) ?_
    exact K
set_option maxRecDepth 100000 in
theorem tX12_hurt_0 {G : zG} {d b : Nat} {I : Nat → Nat → Int32} {L : Nat → Nat → Int64} {R : zR} {x1 : Int32} (hR : zR0 R)
    (K : (((0 ≤ x1.toInt64 ∧ x1.toInt64 ≤ 3) → ((¬ (I 57 3) = 8 → (vp_in (167 + (I 57 3)) 463 ∧ (∀ I4 : Nat → Nat → Int32, I4 = (zup I 57 (zx (167 + (I 57 3))) x1) → R = (some (.int ((zup I4 57 3 (((zup I 57 (zx (167 + (I 57 3))) x1) 57 3) + 1)) 57 3)), zh b (zup I4 57 3 (((zup I 57 (zx (167 + (I 57 3))) x1) 57 3) + 1)) L)))) ∧ ((I 57 3) = 8 → (∃ (r5 : Int32) (I6 : Nat → Nat → Int32), zCall d mX12_refuse [.ref 56, .int (-4)] (zh b I L) (some (.int r5), zh b I6 L) ∧ R = (some (.int r5), zh b I6 L))))) ∧ (¬ (0 ≤ x1.toInt64 ∧ x1.toInt64 ≤ 3) → (∃ (r8 : Int32) (I9 : Nat → Nat → Int32), zCall d mX12_refuse [.ref 56, .int (-2)] (zh b I L) (some (.int r8), zh b I9 L) ∧ R = (some (.int r8), zh b I9 L))))) :
    zA G (d + 1) mX12_hurt 0 [some (.ref 56), some (.int x1)] [] (zh b I L) R := by
  refine zi_iload_n dX12_hurt_0 rfl rfl ?_
  refine zi_i2l dX12_hurt_1 ?_
  refine zi_lconst (v := 0) dX12_hurt_2 (by decide) ?_
  refine zi_ldc2 dX12_hurt_3 u_898 ?_
  refine zi_callS (N := mX12_in) (av := [.long x1.toInt64, .long 0, .long 3]) (st := []) (R1 := (some (.int (zb (0 ≤ x1.toInt64 ∧ x1.toInt64 ≤ 3))), zh b I L)) dX12_hurt_6 okX12_in u_803 u_804 arX12_in rfl (Nat.le_of_ble_eq_true rfl) (kX12_in _ _ _) hR ?_
  show zA G (d + 1) mX12_hurt 9 [some (.ref 56), some (.int x1)] [.int (zb (0 ≤ x1.toInt64 ∧ x1.toInt64 ≤ 3))] (zh b I L) R
  refine zi_if_ne (tgt := 19) dX12_hurt_9 (by decide) (fun c1 => ?_) (fun c1 => ?_)
  · have K := K.1 (zb_1 c1)
    refine zi_aload_n dX12_hurt_19 rfl rfl ?_
    refine zg_getF (k := 0) (v := .ref 57) dX12_hurt_20 zc12 rfl (Nat.le_of_ble_eq_true rfl) (Nat.le_of_ble_eq_true rfl) u_806 rfl (rfl) ?_
    refine zi_iconst (v := 3) dX12_hurt_23 (by decide) ?_
    refine zg_iaload dX12_hurt_24 (rfl) (Nat.le_of_ble_eq_true rfl) (zvi (by decide)) ?_
    show zA G (d + 1) mX12_hurt 25 [some (.ref 56), some (.int x1)] [.int (I 57 3)] (zh b I L) R
    refine zi_bipush (v := 8) dX12_hurt_25 (by decide) ?_
    refine zi_icmp_ne (tgt := 37) dX12_hurt_27 (by decide) (fun c2 => ?_) (fun c2 => ?_)
    · have K := K.1 c2
      refine zi_aload_n dX12_hurt_37 rfl rfl ?_
      refine zg_getF (k := 0) (v := .ref 57) dX12_hurt_38 zc12 rfl (Nat.le_of_ble_eq_true rfl) (Nat.le_of_ble_eq_true rfl) u_806 rfl (rfl) ?_
      refine zi_sipush (v := 167) dX12_hurt_41 (by decide) ?_
      refine zi_aload_n dX12_hurt_44 rfl rfl ?_
      refine zg_getF (k := 0) (v := .ref 57) dX12_hurt_45 zc12 rfl (Nat.le_of_ble_eq_true rfl) (Nat.le_of_ble_eq_true rfl) u_806 rfl (rfl) ?_
      refine zi_iconst (v := 3) dX12_hurt_48 (by decide) ?_
      refine zg_iaload dX12_hurt_49 (rfl) (Nat.le_of_ble_eq_true rfl) (zvi (by decide)) ?_
      show zA G (d + 1) mX12_hurt 50 [some (.ref 56), some (.int x1)] [.int (I 57 3), .int 167, .ref 57] (zh b I L) R
      refine zi_iadd dX12_hurt_50 ?_
      refine zi_iload_n dX12_hurt_51 rfl rfl ?_
      have o3 := K.1
      have K := K.2
      refine zg_iastore dX12_hurt_52 (rfl) (Nat.le_of_ble_eq_true rfl) o3 ?_
      refine zi_aload_n dX12_hurt_53 rfl rfl ?_
      refine zg_getF (k := 0) (v := .ref 57) dX12_hurt_54 zc12 rfl (Nat.le_of_ble_eq_true rfl) (Nat.le_of_ble_eq_true rfl) u_806 rfl (rfl) ?_
      refine zi_iconst (v := 3) dX12_hurt_57 (by decide) ?_
      refine zi_dup2 dX12_hurt_58 rfl rfl ?_
      refine zg_iaload dX12_hurt_59 (rfl) (Nat.le_of_ble_eq_true rfl) (zvi (by decide)) ?_
      show zA G (d + 1) mX12_hurt 60 [some (.ref 56), some (.int x1)] [.int ((zup I 57 (zx (167 + (I 57 3))) x1) 57 3), .int 3, .ref 57] (zh b (zup I 57 (zx (167 + (I 57 3))) x1) L) R
      refine zi_iconst (v := 1) dX12_hurt_60 (by decide) ?_
      refine zi_iadd dX12_hurt_61 ?_
      refine zi_name (fun I4 hI4 => ?_)
      have K := K I4 hI4
      refine zg_iastore dX12_hurt_62 (rfl) (Nat.le_of_ble_eq_true rfl) (zvi (by decide)) ?_
      show zA G (d + 1) mX12_hurt 63 [some (.ref 56), some (.int x1)] [] (zh b (zup I4 57 3 (((zup I 57 (zx (167 + (I 57 3))) x1) 57 3) + 1)) L) R
      refine zi_aload_n dX12_hurt_63 rfl rfl ?_
      refine zg_getF (k := 0) (v := .ref 57) dX12_hurt_64 zc12 rfl (Nat.le_of_ble_eq_true rfl) (Nat.le_of_ble_eq_true rfl) u_806 rfl (rfl) ?_
      refine zi_iconst (v := 3) dX12_hurt_67 (by decide) ?_
      refine zg_iaload dX12_hurt_68 (rfl) (Nat.le_of_ble_eq_true rfl) (zvi (by decide)) ?_
      show zA G (d + 1) mX12_hurt 69 [some (.ref 56), some (.int x1)] [.int ((zup I4 57 3 (((zup I 57 (zx (167 + (I 57 3))) x1) 57 3) + 1)) 57 3)] (zh b (zup I4 57 3 (((zup I 57 (zx (167 + (I 57 3))) x1) 57 3) + 1)) L) R
      subst K
      exact zi_ireturn dX12_hurt_69 rfl rfl
    · have K := K.2 c2
      refine zi_aload_n dX12_hurt_30 rfl rfl ?_
      refine zi_bipush (v := (-4)) dX12_hurt_31 (by decide) ?_
      obtain ⟨r5, I6, h7, K⟩ := K
      refine zi_callV (N := mX12_refuse) (av := [.int (-4)]) (st := []) (R1 := (some (.int r5), zh b I6 L)) dX12_hurt_33 okX12_refuse u_886 u_888 s_23 zc12 (rfl) (Nat.le_of_ble_eq_true rfl) arX12_refuse rfl (Nat.le_of_ble_eq_true rfl) (h7) hR ?_
      show zA G (d + 1) mX12_hurt 36 [some (.ref 56), some (.int x1)] [.int r5] (zh b I6 L) R
      subst K
      exact zi_ireturn dX12_hurt_36 rfl rfl
  · have K := K.2 (zb_0 c1)
    refine zi_aload_n dX12_hurt_12 rfl rfl ?_
    refine zi_bipush (v := (-2)) dX12_hurt_13 (by decide) ?_
    obtain ⟨r8, I9, h10, K⟩ := K
    refine zi_callV (N := mX12_refuse) (av := [.int (-2)]) (st := []) (R1 := (some (.int r8), zh b I9 L)) dX12_hurt_15 okX12_refuse u_886 u_888 s_23 zc12 (rfl) (Nat.le_of_ble_eq_true rfl) arX12_refuse rfl (Nat.le_of_ble_eq_true rfl) (h10) hR ?_
    show zA G (d + 1) mX12_hurt 18 [some (.ref 56), some (.int x1)] [.int r8] (zh b I9 L) R
    subst K
    exact zi_ireturn dX12_hurt_18 rfl rfl
set_option maxRecDepth 100000 in
theorem tX12_heal_0 {G : zG} {d b : Nat} {I : Nat → Nat → Int32} {L : Nat → Nat → Int64} {R : zR} 
    (K : R = (some (.int (I 57 3)), zh b (zup I 57 3 0) L)) :
    zA G d mX12_heal 0 [some (.ref 56), none] [] (zh b I L) R := by
  refine zi_aload_n dX12_heal_0 rfl rfl ?_
  refine zg_getF (k := 0) (v := .ref 57) dX12_heal_1 zc12 rfl (Nat.le_of_ble_eq_true rfl) (Nat.le_of_ble_eq_true rfl) u_806 rfl (rfl) ?_
  refine zi_iconst (v := 3) dX12_heal_4 (by decide) ?_
  refine zg_iaload dX12_heal_5 (rfl) (Nat.le_of_ble_eq_true rfl) (zvi (by decide)) ?_
  show zA G d mX12_heal 6 [some (.ref 56), none] [.int (I 57 3)] (zh b I L) R
  refine zi_istore_n (ls' := [some (.ref 56), some (.int (I 57 3))]) dX12_heal_6 rfl (by decide) rfl ?_
  refine zi_aload_n dX12_heal_7 rfl rfl ?_
  refine zg_getF (k := 0) (v := .ref 57) dX12_heal_8 zc12 rfl (Nat.le_of_ble_eq_true rfl) (Nat.le_of_ble_eq_true rfl) u_806 rfl (rfl) ?_
  refine zi_iconst (v := 3) dX12_heal_11 (by decide) ?_
  refine zi_iconst (v := 0) dX12_heal_12 (by decide) ?_
  refine zg_iastore dX12_heal_13 (rfl) (Nat.le_of_ble_eq_true rfl) (zvi (by decide)) ?_
  show zA G d mX12_heal 14 [some (.ref 56), some (.int (I 57 3))] [] (zh b (zup I 57 3 0) L) R
  refine zi_iload_n dX12_heal_14 rfl rfl ?_
  subst K
  exact zi_ireturn dX12_heal_15 rfl rfl
set_option maxRecDepth 100000 in
theorem tX12_there_0 {G : zG} {d b : Nat} {I : Nat → Nat → Int32} {L : Nat → Nat → Int64} {R : zR} {x1 : Int32} {x2 : Int32}
    (K : zA G d mX12_there 5 [some (.ref 56), some (.int x1), some (.int x2), some (.int 0), some (.int 0)] [] (zh b I L) R) :
    zA G d mX12_there 0 [some (.ref 56), some (.int x1), some (.int x2), none, none] [] (zh b I L) R := by
  refine zi_iconst (v := 0) dX12_there_0 (by decide) ?_
  refine zi_istore_n (ls' := [some (.ref 56), some (.int x1), some (.int x2), some (.int 0), none]) dX12_there_1 rfl (by decide) rfl ?_
  refine zi_iconst (v := 0) dX12_there_2 (by decide) ?_
  refine zi_istore (ls' := [some (.ref 56), some (.int x1), some (.int x2), some (.int 0), some (.int 0)]) dX12_there_3 (by decide) rfl ?_
  exact K
set_option maxRecDepth 100000 in
theorem tX12_there_5 {G : zG} {d b : Nat} {I : Nat → Nat → Int32} {L : Nat → Nat → Int64} {R : zR} {x1 : Int32} {x2 : Int32} {x3 : Int32} {x4 : Int32}
    (K : ((x1 ≤ x4 → R = (some (.int x3), zh b I L)) ∧ (¬ x1 ≤ x4 → (vp_in x4 3 ∧ ((x2 < (I 73 (zx x4)) → zA G d mX12_there 5 [some (.ref 56), some (.int x1), some (.int x2), some (.int (x3 + 0)), some (.int (x4 + 1))] [] (zh b I L) R) ∧ (¬ x2 < (I 73 (zx x4)) → zA G d mX12_there 5 [some (.ref 56), some (.int x1), some (.int x2), some (.int (x3 + 1)), some (.int (x4 + 1))] [] (zh b I L) R)))))) :
    zA G d mX12_there 5 [some (.ref 56), some (.int x1), some (.int x2), some (.int x3), some (.int x4)] [] (zh b I L) R := by
  refine zi_iload dX12_there_5 rfl ?_
  refine zi_iload_n dX12_there_7 rfl rfl ?_
  refine zi_icmp_ge (tgt := 36) dX12_there_8 (by decide) (fun c1 => ?_) (fun c1 => ?_)
  · have K := K.1 c1
    refine zi_iload_n dX12_there_36 rfl rfl ?_
    subst K
    exact zi_ireturn dX12_there_37 rfl rfl
  · have K := K.2 c1
    refine zi_iload_n dX12_there_11 rfl rfl ?_
    refine zi_aload_n dX12_there_12 rfl rfl ?_
    refine zg_getF (k := 23) (v := .ref 73) dX12_there_13 zc12 rfl (Nat.le_of_ble_eq_true rfl) (Nat.le_of_ble_eq_true rfl) u_829 rfl (rfl) ?_
    refine zi_iload dX12_there_16 rfl ?_
    have o2 := K.1
    have K := K.2
    refine zg_iaload dX12_there_18 (rfl) (Nat.le_of_ble_eq_true rfl) o2 ?_
    refine zi_iload_n dX12_there_19 rfl rfl ?_
    refine zi_icmp_gt (tgt := 27) dX12_there_20 (by decide) (fun c3 => ?_) (fun c3 => ?_)
    · have K := K.1 c3
      refine zi_iconst (v := 0) dX12_there_27 (by decide) ?_
      refine zi_iadd dX12_there_28 ?_
      refine zi_istore_n (ls' := [some (.ref 56), some (.int x1), some (.int x2), some (.int (x3 + 0)), some (.int x4)]) dX12_there_29 rfl (by decide) rfl ?_
      refine zi_iinc (v := x4 + 1) (ls' := [some (.ref 56), some (.int x1), some (.int x2), some (.int (x3 + 0)), some (.int (x4 + 1))]) dX12_there_30 rfl (by decide) rfl rfl ?_
      refine zi_goto (tgt := 5) dX12_there_33 (by decide) ?_
      exact K
    · have K := K.2 c3
      refine zi_iconst (v := 1) dX12_there_23 (by decide) ?_
      refine zi_goto (tgt := 28) dX12_there_24 (by decide) ?_
      refine zi_iadd dX12_there_28 ?_
      refine zi_istore_n (ls' := [some (.ref 56), some (.int x1), some (.int x2), some (.int (x3 + 1)), some (.int x4)]) dX12_there_29 rfl (by decide) rfl ?_
      refine zi_iinc (v := x4 + 1) (ls' := [some (.ref 56), some (.int x1), some (.int x2), some (.int (x3 + 1)), some (.int (x4 + 1))]) dX12_there_30 rfl (by decide) rfl rfl ?_
      refine zi_goto (tgt := 5) dX12_there_33 (by decide) ?_
      exact K
set_option maxRecDepth 100000 in
theorem tX12_waits_0 {G : zG} {d b : Nat} {I : Nat → Nat → Int32} {L : Nat → Nat → Int64} {R : zR} {x1 : Int32} {x2 : Int32} (hR : zR0 R)
    (K : ((¬ (1 ≤ x1.toInt64 ∧ x1.toInt64 ≤ 3) → (∃ (r2 : Int32) (I3 : Nat → Nat → Int32), zCall d mX12_refuse [.ref 56, .int (-2)] (zh b I L) (some (.int r2), zh b I3 L) ∧ R = (some (.int (r2 - 8)), zh b I3 L))) ∧ ((1 ≤ x1.toInt64 ∧ x1.toInt64 ≤ 3) → (((1 ≤ x2.toInt64 ∧ x2.toInt64 ≤ 99) → zA G (d + 1) mX12_waits 36 [some (.ref 56), some (.int x1), some (.int x2), some (.int 0), none, none, none, none, none] [] (zh b I L) R) ∧ (¬ (1 ≤ x2.toInt64 ∧ x2.toInt64 ≤ 99) → (∃ (r6 : Int32) (I7 : Nat → Nat → Int32), zCall d mX12_refuse [.ref 56, .int (-2)] (zh b I L) (some (.int r6), zh b I7 L) ∧ R = (some (.int (r6 - 8)), zh b I7 L))))))) :
    zA G (d + 1) mX12_waits 0 [some (.ref 56), some (.int x1), some (.int x2), none, none, none, none, none, none] [] (zh b I L) R := by
  refine zi_iload_n dX12_waits_0 rfl rfl ?_
  refine zi_i2l dX12_waits_1 ?_
  refine zi_lconst (v := 1) dX12_waits_2 (by decide) ?_
  refine zi_ldc2 dX12_waits_3 u_898 ?_
  refine zi_callS (N := mX12_in) (av := [.long x1.toInt64, .long 1, .long 3]) (st := []) (R1 := (some (.int (zb (1 ≤ x1.toInt64 ∧ x1.toInt64 ≤ 3))), zh b I L)) dX12_waits_6 okX12_in u_803 u_804 arX12_in rfl (Nat.le_of_ble_eq_true rfl) (kX12_in _ _ _) hR ?_
  show zA G (d + 1) mX12_waits 9 [some (.ref 56), some (.int x1), some (.int x2), none, none, none, none, none, none] [.int (zb (1 ≤ x1.toInt64 ∧ x1.toInt64 ≤ 3))] (zh b I L) R
  refine zi_if_eq (tgt := 24) dX12_waits_9 (by decide) (fun c1 => ?_) (fun c1 => ?_)
  · have K := K.1 (zb_0 c1)
    refine zi_aload_n dX12_waits_24 rfl rfl ?_
    refine zi_bipush (v := (-2)) dX12_waits_25 (by decide) ?_
    obtain ⟨r2, I3, h4, K⟩ := K
    refine zi_callV (N := mX12_refuse) (av := [.int (-2)]) (st := []) (R1 := (some (.int r2), zh b I3 L)) dX12_waits_27 okX12_refuse u_886 u_888 s_23 zc12 (rfl) (Nat.le_of_ble_eq_true rfl) arX12_refuse rfl (Nat.le_of_ble_eq_true rfl) (h4) hR ?_
    show zA G (d + 1) mX12_waits 30 [some (.ref 56), some (.int x1), some (.int x2), none, none, none, none, none, none] [.int r2] (zh b I3 L) R
    refine zi_bipush (v := 8) dX12_waits_30 (by decide) ?_
    refine zi_isub dX12_waits_32 ?_
    subst K
    exact zi_ireturn dX12_waits_33 rfl rfl
  · have K := K.2 (zb_1 c1)
    refine zi_iload_n dX12_waits_12 rfl rfl ?_
    refine zi_i2l dX12_waits_13 ?_
    refine zi_lconst (v := 1) dX12_waits_14 (by decide) ?_
    refine zi_ldc2 dX12_waits_15 u_914 ?_
    refine zi_callS (N := mX12_in) (av := [.long x2.toInt64, .long 1, .long 99]) (st := []) (R1 := (some (.int (zb (1 ≤ x2.toInt64 ∧ x2.toInt64 ≤ 99))), zh b I L)) dX12_waits_18 okX12_in u_803 u_804 arX12_in rfl (Nat.le_of_ble_eq_true rfl) (kX12_in _ _ _) hR ?_
    show zA G (d + 1) mX12_waits 21 [some (.ref 56), some (.int x1), some (.int x2), none, none, none, none, none, none] [.int (zb (1 ≤ x2.toInt64 ∧ x2.toInt64 ≤ 99))] (zh b I L) R
    refine zi_if_ne (tgt := 34) dX12_waits_21 (by decide) (fun c5 => ?_) (fun c5 => ?_)
    · have K := K.1 (zb_1 c5)
      refine zi_iconst (v := 0) dX12_waits_34 (by decide) ?_
      refine zi_istore_n (ls' := [some (.ref 56), some (.int x1), some (.int x2), some (.int 0), none, none, none, none, none]) dX12_waits_35 rfl (by decide) rfl ?_
      exact K
    · have K := K.2 (zb_0 c5)
      refine zi_aload_n dX12_waits_24 rfl rfl ?_
      refine zi_bipush (v := (-2)) dX12_waits_25 (by decide) ?_
      obtain ⟨r6, I7, h8, K⟩ := K
      refine zi_callV (N := mX12_refuse) (av := [.int (-2)]) (st := []) (R1 := (some (.int r6), zh b I7 L)) dX12_waits_27 okX12_refuse u_886 u_888 s_23 zc12 (rfl) (Nat.le_of_ble_eq_true rfl) arX12_refuse rfl (Nat.le_of_ble_eq_true rfl) (h8) hR ?_
      show zA G (d + 1) mX12_waits 30 [some (.ref 56), some (.int x1), some (.int x2), none, none, none, none, none, none] [.int r6] (zh b I7 L) R
      refine zi_bipush (v := 8) dX12_waits_30 (by decide) ?_
      refine zi_isub dX12_waits_32 ?_
      subst K
      exact zi_ireturn dX12_waits_33 rfl rfl
set_option maxRecDepth 100000 in
theorem tX12_waits_36 {G : zG} {d b : Nat} {I : Nat → Nat → Int32} {L : Nat → Nat → Int64} {R : zR} {x1 : Int32} {x2 : Int32} {x3 : Int32} (hR : zR0 R)
    (K : (((I 57 3) ≤ x3 → zA G (d + 1) mX12_waits 78 [some (.ref 56), some (.int x1), some (.int x2), some (.int 0), none, none, none, none, none] [] (zh b I L) R) ∧ (¬ (I 57 3) ≤ x3 → (vp_in (167 + x3) 463 ∧ (((I 57 (zx (167 + x3))) ≤ x1 → zA G (d + 1) mX12_waits 36 [some (.ref 56), some (.int x1), some (.int x2), some (.int (x3 + 1)), none, none, none, none, none] [] (zh b I L) R) ∧ (¬ (I 57 (zx (167 + x3))) ≤ x1 → (∃ (r4 : Int32) (I5 : Nat → Nat → Int32), zCall d mX12_refuse [.ref 56, .int (-3)] (zh b I L) (some (.int r4), zh b I5 L) ∧ R = (some (.int (r4 - 17)), zh b I5 L)))))))) :
    zA G (d + 1) mX12_waits 36 [some (.ref 56), some (.int x1), some (.int x2), some (.int x3), none, none, none, none, none] [] (zh b I L) R := by
  refine zi_iload_n dX12_waits_36 rfl rfl ?_
  refine zi_aload_n dX12_waits_37 rfl rfl ?_
  refine zg_getF (k := 0) (v := .ref 57) dX12_waits_38 zc12 rfl (Nat.le_of_ble_eq_true rfl) (Nat.le_of_ble_eq_true rfl) u_806 rfl (rfl) ?_
  refine zi_iconst (v := 3) dX12_waits_41 (by decide) ?_
  refine zg_iaload dX12_waits_42 (rfl) (Nat.le_of_ble_eq_true rfl) (zvi (by decide)) ?_
  show zA G (d + 1) mX12_waits 43 [some (.ref 56), some (.int x1), some (.int x2), some (.int x3), none, none, none, none, none] [.int (I 57 3), .int x3] (zh b I L) R
  refine zi_icmp_ge (tgt := 76) dX12_waits_43 (by decide) (fun c1 => ?_) (fun c1 => ?_)
  · have K := K.1 c1
    refine zi_iconst (v := 0) dX12_waits_76 (by decide) ?_
    refine zi_istore_n (ls' := [some (.ref 56), some (.int x1), some (.int x2), some (.int 0), none, none, none, none, none]) dX12_waits_77 rfl (by decide) rfl ?_
    exact K
  · have K := K.2 c1
    refine zi_aload_n dX12_waits_46 rfl rfl ?_
    refine zg_getF (k := 0) (v := .ref 57) dX12_waits_47 zc12 rfl (Nat.le_of_ble_eq_true rfl) (Nat.le_of_ble_eq_true rfl) u_806 rfl (rfl) ?_
    refine zi_sipush (v := 167) dX12_waits_50 (by decide) ?_
    refine zi_iload_n dX12_waits_53 rfl rfl ?_
    refine zi_iadd dX12_waits_54 ?_
    have o2 := K.1
    have K := K.2
    refine zg_iaload dX12_waits_55 (rfl) (Nat.le_of_ble_eq_true rfl) o2 ?_
    refine zi_iload_n dX12_waits_56 rfl rfl ?_
    refine zi_icmp_le (tgt := 70) dX12_waits_57 (by decide) (fun c3 => ?_) (fun c3 => ?_)
    · have K := K.1 c3
      refine zi_iinc (v := x3 + 1) (ls' := [some (.ref 56), some (.int x1), some (.int x2), some (.int (x3 + 1)), none, none, none, none, none]) dX12_waits_70 rfl (by decide) rfl rfl ?_
      refine zi_goto (tgt := 36) dX12_waits_73 (by decide) ?_
      exact K
    · have K := K.2 c3
      refine zi_aload_n dX12_waits_60 rfl rfl ?_
      refine zi_bipush (v := (-3)) dX12_waits_61 (by decide) ?_
      obtain ⟨r4, I5, h6, K⟩ := K
      refine zi_callV (N := mX12_refuse) (av := [.int (-3)]) (st := []) (R1 := (some (.int r4), zh b I5 L)) dX12_waits_63 okX12_refuse u_886 u_888 s_23 zc12 (rfl) (Nat.le_of_ble_eq_true rfl) arX12_refuse rfl (Nat.le_of_ble_eq_true rfl) (h6) hR ?_
      show zA G (d + 1) mX12_waits 66 [some (.ref 56), some (.int x1), some (.int x2), some (.int x3), none, none, none, none, none] [.int r4] (zh b I5 L) R
      refine zi_bipush (v := 17) dX12_waits_66 (by decide) ?_
      refine zi_isub dX12_waits_68 ?_
      subst K
      exact zi_ireturn dX12_waits_69 rfl rfl
set_option maxRecDepth 100000 in
theorem tX12_waits_78 {G : zG} {d b : Nat} {I : Nat → Nat → Int32} {L : Nat → Nat → Int64} {R : zR} {x1 : Int32} {x2 : Int32} {x3 : Int32}
    (K : ((3 ≤ x3 → zA G (d + 1) mX12_waits 104 [some (.ref 56), some (.int x1), some (.int x2), some (.int 0), some (.int 0), some (.int 0), none, none, none] [] (zh b I L) R) ∧ (¬ 3 ≤ x3 → (vp_in x3 3 ∧ zA G (d + 1) mX12_waits 78 [some (.ref 56), some (.int x1), some (.int x2), some (.int (x3 + 1)), none, none, none, none, none] [] (zh b (zup I 73 (zx x3) 0) L) R)))) :
    zA G (d + 1) mX12_waits 78 [some (.ref 56), some (.int x1), some (.int x2), some (.int x3), none, none, none, none, none] [] (zh b I L) R := by
  refine zi_iload_n dX12_waits_78 rfl rfl ?_
  refine zi_iconst (v := 3) dX12_waits_79 (by decide) ?_
  refine zi_icmp_ge (tgt := 96) dX12_waits_80 (by decide) (fun c1 => ?_) (fun c1 => ?_)
  · have K := K.1 c1
    refine zi_iconst (v := 0) dX12_waits_96 (by decide) ?_
    refine zi_istore_n (ls' := [some (.ref 56), some (.int x1), some (.int x2), some (.int 0), none, none, none, none, none]) dX12_waits_97 rfl (by decide) rfl ?_
    refine zi_iconst (v := 0) dX12_waits_98 (by decide) ?_
    refine zi_istore (ls' := [some (.ref 56), some (.int x1), some (.int x2), some (.int 0), some (.int 0), none, none, none, none]) dX12_waits_99 (by decide) rfl ?_
    refine zi_iconst (v := 0) dX12_waits_101 (by decide) ?_
    refine zi_istore (ls' := [some (.ref 56), some (.int x1), some (.int x2), some (.int 0), some (.int 0), some (.int 0), none, none, none]) dX12_waits_102 (by decide) rfl ?_
    exact K
  · have K := K.2 c1
    refine zi_aload_n dX12_waits_83 rfl rfl ?_
    refine zg_getF (k := 23) (v := .ref 73) dX12_waits_84 zc12 rfl (Nat.le_of_ble_eq_true rfl) (Nat.le_of_ble_eq_true rfl) u_829 rfl (rfl) ?_
    refine zi_iload_n dX12_waits_87 rfl rfl ?_
    refine zi_iconst (v := 0) dX12_waits_88 (by decide) ?_
    have o2 := K.1
    have K := K.2
    refine zg_iastore dX12_waits_89 (rfl) (Nat.le_of_ble_eq_true rfl) o2 ?_
    refine zi_iinc (v := x3 + 1) (ls' := [some (.ref 56), some (.int x1), some (.int x2), some (.int (x3 + 1)), none, none, none, none, none]) dX12_waits_90 rfl (by decide) rfl rfl ?_
    refine zi_goto (tgt := 78) dX12_waits_93 (by decide) ?_
    exact K
set_option maxRecDepth 100000 in
theorem tX12_waits_104 {G : zG} {d b : Nat} {I : Nat → Nat → Int32} {L : Nat → Nat → Int64} {R : zR} {x1 : Int32} {x2 : Int32} {x3 : Int32} {x4 : Int32} {x5 : Int32}
    (K : (((I 57 3) ≤ x5 → R = (some (.int x3), zh b I L)) ∧ (¬ (I 57 3) ≤ x5 → (vp_in (167 + x5) 463 ∧ ((¬ (I 57 (zx (167 + x5))) = 0 → (vp_in (167 + x5) 463 ∧ zA G (d + 1) mX12_waits 146 [some (.ref 56), some (.int x1), some (.int x2), some (.int x3), some (.int x4), some (.int x5), some (.int (I 57 (zx (167 + x5)))), none, none] [] (zh b I L) R)) ∧ ((I 57 (zx (167 + x5))) = 0 → zA G (d + 1) mX12_waits 146 [some (.ref 56), some (.int x1), some (.int x2), some (.int x3), some (.int x4), some (.int x5), some (.int 1), none, none] [] (zh b I L) R)))))) :
    zA G (d + 1) mX12_waits 104 [some (.ref 56), some (.int x1), some (.int x2), some (.int x3), some (.int x4), some (.int x5), none, none, none] [] (zh b I L) R := by
  refine zi_iload dX12_waits_104 rfl ?_
  refine zi_aload_n dX12_waits_106 rfl rfl ?_
  refine zg_getF (k := 0) (v := .ref 57) dX12_waits_107 zc12 rfl (Nat.le_of_ble_eq_true rfl) (Nat.le_of_ble_eq_true rfl) u_806 rfl (rfl) ?_
  refine zi_iconst (v := 3) dX12_waits_110 (by decide) ?_
  refine zg_iaload dX12_waits_111 (rfl) (Nat.le_of_ble_eq_true rfl) (zvi (by decide)) ?_
  show zA G (d + 1) mX12_waits 112 [some (.ref 56), some (.int x1), some (.int x2), some (.int x3), some (.int x4), some (.int x5), none, none, none] [.int (I 57 3), .int x5] (zh b I L) R
  refine zi_icmp_ge (tgt := 235) dX12_waits_112 (by decide) (fun c1 => ?_) (fun c1 => ?_)
  · have K := K.1 c1
    refine zi_iload_n dX12_waits_235 rfl rfl ?_
    subst K
    exact zi_ireturn dX12_waits_236 rfl rfl
  · have K := K.2 c1
    refine zi_aload_n dX12_waits_115 rfl rfl ?_
    refine zg_getF (k := 0) (v := .ref 57) dX12_waits_116 zc12 rfl (Nat.le_of_ble_eq_true rfl) (Nat.le_of_ble_eq_true rfl) u_806 rfl (rfl) ?_
    refine zi_sipush (v := 167) dX12_waits_119 (by decide) ?_
    refine zi_iload dX12_waits_122 rfl ?_
    refine zi_iadd dX12_waits_124 ?_
    have o2 := K.1
    have K := K.2
    refine zg_iaload dX12_waits_125 (rfl) (Nat.le_of_ble_eq_true rfl) o2 ?_
    refine zi_if_ne (tgt := 133) dX12_waits_126 (by decide) (fun c3 => ?_) (fun c3 => ?_)
    · have K := K.1 c3
      refine zi_aload_n dX12_waits_133 rfl rfl ?_
      refine zg_getF (k := 0) (v := .ref 57) dX12_waits_134 zc12 rfl (Nat.le_of_ble_eq_true rfl) (Nat.le_of_ble_eq_true rfl) u_806 rfl (rfl) ?_
      refine zi_sipush (v := 167) dX12_waits_137 (by decide) ?_
      refine zi_iload dX12_waits_140 rfl ?_
      refine zi_iadd dX12_waits_142 ?_
      have o4 := K.1
      have K := K.2
      refine zg_iaload dX12_waits_143 (rfl) (Nat.le_of_ble_eq_true rfl) o4 ?_
      refine zi_istore (ls' := [some (.ref 56), some (.int x1), some (.int x2), some (.int x3), some (.int x4), some (.int x5), some (.int (I 57 (zx (167 + x5)))), none, none]) dX12_waits_144 (by decide) rfl ?_
      exact K
    · have K := K.2 c3
      refine zi_iconst (v := 1) dX12_waits_129 (by decide) ?_
      refine zi_goto (tgt := 144) dX12_waits_130 (by decide) ?_
      refine zi_istore (ls' := [some (.ref 56), some (.int x1), some (.int x2), some (.int x3), some (.int x4), some (.int x5), some (.int 1), none, none]) dX12_waits_144 (by decide) rfl ?_
      exact K
set_option maxRecDepth 100000 in
theorem tX12_waits_146 {G : zG} {d b : Nat} {I : Nat → Nat → Int32} {L : Nat → Nat → Int64} {R : zR} {x1 : Int32} {x2 : Int32} {x3 : Int32} {x4 : Int32} {x5 : Int32} {x6 : Int32} (hR : zR0 R)
    (K : (∃ (r1 : Int32), zCall d mX12_there [.ref 56, .int x1, .int x4] (zh b I L) (some (.int r1), zh b I L) ∧ ((x6 ≤ r1 → (vp_in (167 + x5) 463 ∧ zA G (d + 1) mX12_waits 183 [some (.ref 56), some (.int x1), some (.int x2), some (.int x3), some (.int x4), some (.int x5), some (.int x6), some (.int (I 57 (zx (167 + x5)))), some (.int 0)] [] (zh b I L) R)) ∧ (¬ x6 ≤ r1 → zA G (d + 1) mX12_waits 146 [some (.ref 56), some (.int x1), some (.int x2), some (.int (x3 + 1)), some (.int (x4 + 1)), some (.int x5), some (.int x6), none, none] [] (zh b I L) R)))) :
    zA G (d + 1) mX12_waits 146 [some (.ref 56), some (.int x1), some (.int x2), some (.int x3), some (.int x4), some (.int x5), some (.int x6), none, none] [] (zh b I L) R := by
  refine zi_aload_n dX12_waits_146 rfl rfl ?_
  refine zi_iload_n dX12_waits_147 rfl rfl ?_
  refine zi_iload dX12_waits_148 rfl ?_
  obtain ⟨r1, h2, K⟩ := K
  refine zi_callV (N := mX12_there) (av := [.int x1, .int x4]) (st := []) (R1 := (some (.int r1), zh b I L)) dX12_waits_150 okX12_there u_1141 u_1143 s_48 zc12 (rfl) (Nat.le_of_ble_eq_true rfl) arX12_there rfl (Nat.le_of_ble_eq_true rfl) (h2) hR ?_
  show zA G (d + 1) mX12_waits 153 [some (.ref 56), some (.int x1), some (.int x2), some (.int x3), some (.int x4), some (.int x5), some (.int x6), none, none] [.int r1] (zh b I L) R
  refine zi_iload dX12_waits_153 rfl ?_
  refine zi_icmp_ge (tgt := 167) dX12_waits_155 (by decide) (fun c3 => ?_) (fun c3 => ?_)
  · have K := K.1 c3
    refine zi_aload_n dX12_waits_167 rfl rfl ?_
    refine zg_getF (k := 0) (v := .ref 57) dX12_waits_168 zc12 rfl (Nat.le_of_ble_eq_true rfl) (Nat.le_of_ble_eq_true rfl) u_806 rfl (rfl) ?_
    refine zi_sipush (v := 167) dX12_waits_171 (by decide) ?_
    refine zi_iload dX12_waits_174 rfl ?_
    refine zi_iadd dX12_waits_176 ?_
    have o4 := K.1
    have K := K.2
    refine zg_iaload dX12_waits_177 (rfl) (Nat.le_of_ble_eq_true rfl) o4 ?_
    refine zi_istore (ls' := [some (.ref 56), some (.int x1), some (.int x2), some (.int x3), some (.int x4), some (.int x5), some (.int x6), some (.int (I 57 (zx (167 + x5)))), none]) dX12_waits_178 (by decide) rfl ?_
    refine zi_iconst (v := 0) dX12_waits_180 (by decide) ?_
    refine zi_istore (ls' := [some (.ref 56), some (.int x1), some (.int x2), some (.int x3), some (.int x4), some (.int x5), some (.int x6), some (.int (I 57 (zx (167 + x5)))), some (.int 0)]) dX12_waits_181 (by decide) rfl ?_
    exact K
  · have K := K.2 c3
    refine zi_iinc (v := x4 + 1) (ls' := [some (.ref 56), some (.int x1), some (.int x2), some (.int x3), some (.int (x4 + 1)), some (.int x5), some (.int x6), none, none]) dX12_waits_158 rfl (by decide) rfl rfl ?_
    refine zi_iinc (v := x3 + 1) (ls' := [some (.ref 56), some (.int x1), some (.int x2), some (.int (x3 + 1)), some (.int (x4 + 1)), some (.int x5), some (.int x6), none, none]) dX12_waits_161 rfl (by decide) rfl rfl ?_
    refine zi_goto (tgt := 146) dX12_waits_164 (by decide) ?_
    exact K
set_option maxRecDepth 100000 in
theorem tX12_waits_183 {G : zG} {d b : Nat} {I : Nat → Nat → Int32} {L : Nat → Nat → Int64} {R : zR} {x1 : Int32} {x2 : Int32} {x3 : Int32} {x4 : Int32} {x5 : Int32} {x6 : Int32} {x7 : Int32} {x8 : Int32}
    (K : ((x1 ≤ x8 → zA G (d + 1) mX12_waits 104 [some (.ref 56), some (.int x1), some (.int x2), some (.int x3), some (.int (x4 + 1)), some (.int (x5 + 1)), none, none, none] [] (zh b I L) R) ∧ (¬ x1 ≤ x8 → ((x7 ≤ 0 → zA G (d + 1) mX12_waits 183 [some (.ref 56), some (.int x1), some (.int x2), some (.int x3), some (.int x4), some (.int x5), some (.int x6), some (.int x7), some (.int (x8 + 1))] [] (zh b I L) R) ∧ (¬ x7 ≤ 0 → (vp_in x8 3 ∧ ((x4 < (I 73 (zx x8)) → zA G (d + 1) mX12_waits 183 [some (.ref 56), some (.int x1), some (.int x2), some (.int x3), some (.int x4), some (.int x5), some (.int x6), some (.int x7), some (.int (x8 + 1))] [] (zh b I L) R) ∧ (¬ x4 < (I 73 (zx x8)) → (vp_in x8 3 ∧ zA G (d + 1) mX12_waits 183 [some (.ref 56), some (.int x1), some (.int x2), some (.int x3), some (.int x4), some (.int x5), some (.int x6), some (.int (x7 + (-1))), some (.int (x8 + 1))] [] (zh b (zup I 73 (zx x8) (x4 + x2)) L) R))))))))) :
    zA G (d + 1) mX12_waits 183 [some (.ref 56), some (.int x1), some (.int x2), some (.int x3), some (.int x4), some (.int x5), some (.int x6), some (.int x7), some (.int x8)] [] (zh b I L) R := by
  refine zi_iload dX12_waits_183 rfl ?_
  refine zi_iload_n dX12_waits_185 rfl rfl ?_
  refine zi_icmp_ge (tgt := 226) dX12_waits_186 (by decide) (fun c1 => ?_) (fun c1 => ?_)
  · have K := K.1 c1
    refine zi_iinc (v := x4 + 1) (ls' := [some (.ref 56), some (.int x1), some (.int x2), some (.int x3), some (.int (x4 + 1)), some (.int x5), some (.int x6), some (.int x7), some (.int x8)]) dX12_waits_226 rfl (by decide) rfl rfl ?_
    refine zi_iinc (v := x5 + 1) (ls' := [some (.ref 56), some (.int x1), some (.int x2), some (.int x3), some (.int (x4 + 1)), some (.int (x5 + 1)), some (.int x6), some (.int x7), some (.int x8)]) dX12_waits_229 rfl (by decide) rfl rfl ?_
    refine zi_goto (tgt := 104) dX12_waits_232 (by decide) ?_
    refine zi_mask [true, true, true, true, true, true, false, false, false] rfl ?_
    exact K
  · have K := K.2 c1
    refine zi_iload dX12_waits_189 rfl ?_
    refine zi_if_le (tgt := 220) dX12_waits_191 (by decide) (fun c2 => ?_) (fun c2 => ?_)
    · have K := K.1 c2
      refine zi_iinc (v := x8 + 1) (ls' := [some (.ref 56), some (.int x1), some (.int x2), some (.int x3), some (.int x4), some (.int x5), some (.int x6), some (.int x7), some (.int (x8 + 1))]) dX12_waits_220 rfl (by decide) rfl rfl ?_
      refine zi_goto (tgt := 183) dX12_waits_223 (by decide) ?_
      exact K
    · have K := K.2 c2
      refine zi_aload_n dX12_waits_194 rfl rfl ?_
      refine zg_getF (k := 23) (v := .ref 73) dX12_waits_195 zc12 rfl (Nat.le_of_ble_eq_true rfl) (Nat.le_of_ble_eq_true rfl) u_829 rfl (rfl) ?_
      refine zi_iload dX12_waits_198 rfl ?_
      have o3 := K.1
      have K := K.2
      refine zg_iaload dX12_waits_200 (rfl) (Nat.le_of_ble_eq_true rfl) o3 ?_
      refine zi_iload dX12_waits_201 rfl ?_
      refine zi_icmp_gt (tgt := 220) dX12_waits_203 (by decide) (fun c4 => ?_) (fun c4 => ?_)
      · have K := K.1 c4
        refine zi_iinc (v := x8 + 1) (ls' := [some (.ref 56), some (.int x1), some (.int x2), some (.int x3), some (.int x4), some (.int x5), some (.int x6), some (.int x7), some (.int (x8 + 1))]) dX12_waits_220 rfl (by decide) rfl rfl ?_
        refine zi_goto (tgt := 183) dX12_waits_223 (by decide) ?_
        exact K
      · have K := K.2 c4
        refine zi_aload_n dX12_waits_206 rfl rfl ?_
        refine zg_getF (k := 23) (v := .ref 73) dX12_waits_207 zc12 rfl (Nat.le_of_ble_eq_true rfl) (Nat.le_of_ble_eq_true rfl) u_829 rfl (rfl) ?_
        refine zi_iload dX12_waits_210 rfl ?_
        refine zi_iload dX12_waits_212 rfl ?_
        refine zi_iload_n dX12_waits_214 rfl rfl ?_
        refine zi_iadd dX12_waits_215 ?_
        have o5 := K.1
        have K := K.2
        refine zg_iastore dX12_waits_216 (rfl) (Nat.le_of_ble_eq_true rfl) o5 ?_
        refine zi_iinc (v := x7 + (-1)) (ls' := [some (.ref 56), some (.int x1), some (.int x2), some (.int x3), some (.int x4), some (.int x5), some (.int x6), some (.int (x7 + (-1))), some (.int x8)]) dX12_waits_217 rfl (by decide) rfl rfl ?_
        refine zi_iinc (v := x8 + 1) (ls' := [some (.ref 56), some (.int x1), some (.int x2), some (.int x3), some (.int x4), some (.int x5), some (.int x6), some (.int (x7 + (-1))), some (.int (x8 + 1))]) dX12_waits_220 rfl (by decide) rfl rfl ?_
        refine zi_goto (tgt := 183) dX12_waits_223 (by decide) ?_
        exact K
set_option maxRecDepth 100000 in
theorem tX12_drawn_0 {G : zG} {d b : Nat} {I : Nat → Nat → Int32} {L : Nat → Nat → Int64} {R : zR} {x1 : Int32} {x2 : Int32} (hR : zR0 R)
    (K : ((¬ (0 ≤ x1.toInt64 ∧ x1.toInt64 ≤ 999999) → (∃ (r2 : Int32) (I3 : Nat → Nat → Int32), zCall (d + 3) mX12_refuse [.ref 56, .int (-2)] (zh b I L) (some (.int r2), zh b I3 L) ∧ R = (some (.int r2), zh b I3 L))) ∧ ((0 ≤ x1.toInt64 ∧ x1.toInt64 ≤ 999999) → (((0 ≤ x2.toInt64 ∧ x2.toInt64 ≤ 9) → zA G (d + 4) mX12_drawn 49 [some (.ref 56), some (.int x1), some (.int x2), some (.long x1.toInt64), none, some (.int ((1 <<< ((I 57 2) &&& 31)) - 1)), some (.int 0), none, none] [] (zh b I L) R) ∧ (¬ (0 ≤ x2.toInt64 ∧ x2.toInt64 ≤ 9) → (∃ (r6 : Int32) (I7 : Nat → Nat → Int32), zCall (d + 3) mX12_refuse [.ref 56, .int (-2)] (zh b I L) (some (.int r6), zh b I7 L) ∧ R = (some (.int r6), zh b I7 L))))))) :
    zA G (d + 4) mX12_drawn 0 [some (.ref 56), some (.int x1), some (.int x2), none, none, none, none, none, none] [] (zh b I L) R := by
  refine zi_iload_n dX12_drawn_0 rfl rfl ?_
  refine zi_i2l dX12_drawn_1 ?_
  refine zi_lconst (v := 0) dX12_drawn_2 (by decide) ?_
  refine zi_ldc2 dX12_drawn_3 u_1149 ?_
  refine zi_callS (N := mX12_in) (av := [.long x1.toInt64, .long 0, .long 999999]) (st := []) (R1 := (some (.int (zb (0 ≤ x1.toInt64 ∧ x1.toInt64 ≤ 999999))), zh b I L)) dX12_drawn_6 okX12_in u_803 u_804 arX12_in rfl (Nat.le_of_ble_eq_true rfl) (kX12_in _ _ _) hR ?_
  show zA G (d + 4) mX12_drawn 9 [some (.ref 56), some (.int x1), some (.int x2), none, none, none, none, none, none] [.int (zb (0 ≤ x1.toInt64 ∧ x1.toInt64 ≤ 999999))] (zh b I L) R
  refine zi_if_eq (tgt := 24) dX12_drawn_9 (by decide) (fun c1 => ?_) (fun c1 => ?_)
  · have K := K.1 (zb_0 c1)
    refine zi_aload_n dX12_drawn_24 rfl rfl ?_
    refine zi_bipush (v := (-2)) dX12_drawn_25 (by decide) ?_
    obtain ⟨r2, I3, h4, K⟩ := K
    refine zi_callV (N := mX12_refuse) (av := [.int (-2)]) (st := []) (R1 := (some (.int r2), zh b I3 L)) dX12_drawn_27 okX12_refuse u_886 u_888 s_23 zc12 (rfl) (Nat.le_of_ble_eq_true rfl) arX12_refuse rfl (Nat.le_of_ble_eq_true rfl) (h4) hR ?_
    show zA G (d + 4) mX12_drawn 30 [some (.ref 56), some (.int x1), some (.int x2), none, none, none, none, none, none] [.int r2] (zh b I3 L) R
    subst K
    exact zi_ireturn dX12_drawn_30 rfl rfl
  · have K := K.2 (zb_1 c1)
    refine zi_iload_n dX12_drawn_12 rfl rfl ?_
    refine zi_i2l dX12_drawn_13 ?_
    refine zi_lconst (v := 0) dX12_drawn_14 (by decide) ?_
    refine zi_ldc2 dX12_drawn_15 u_897 ?_
    refine zi_callS (N := mX12_in) (av := [.long x2.toInt64, .long 0, .long 9]) (st := []) (R1 := (some (.int (zb (0 ≤ x2.toInt64 ∧ x2.toInt64 ≤ 9))), zh b I L)) dX12_drawn_18 okX12_in u_803 u_804 arX12_in rfl (Nat.le_of_ble_eq_true rfl) (kX12_in _ _ _) hR ?_
    show zA G (d + 4) mX12_drawn 21 [some (.ref 56), some (.int x1), some (.int x2), none, none, none, none, none, none] [.int (zb (0 ≤ x2.toInt64 ∧ x2.toInt64 ≤ 9))] (zh b I L) R
    refine zi_if_ne (tgt := 31) dX12_drawn_21 (by decide) (fun c5 => ?_) (fun c5 => ?_)
    · have K := K.1 (zb_1 c5)
      refine zi_iload_n dX12_drawn_31 rfl rfl ?_
      refine zi_i2l dX12_drawn_32 ?_
      refine zi_lstore_n (ls' := [some (.ref 56), some (.int x1), some (.int x2), some (.long x1.toInt64), none, none, none, none, none]) dX12_drawn_33 rfl (by decide) rfl ?_
      refine zi_iconst (v := 1) dX12_drawn_34 (by decide) ?_
      refine zi_aload_n dX12_drawn_35 rfl rfl ?_
      refine zg_getF (k := 0) (v := .ref 57) dX12_drawn_36 zc12 rfl (Nat.le_of_ble_eq_true rfl) (Nat.le_of_ble_eq_true rfl) u_806 rfl (rfl) ?_
      refine zi_iconst (v := 2) dX12_drawn_39 (by decide) ?_
      refine zg_iaload dX12_drawn_40 (rfl) (Nat.le_of_ble_eq_true rfl) (zvi (by decide)) ?_
      show zA G (d + 4) mX12_drawn 41 [some (.ref 56), some (.int x1), some (.int x2), some (.long x1.toInt64), none, none, none, none, none] [.int (I 57 2), .int 1] (zh b I L) R
      refine zi_ishl dX12_drawn_41 ?_
      refine zi_iconst (v := 1) dX12_drawn_42 (by decide) ?_
      refine zi_isub dX12_drawn_43 ?_
      refine zi_istore (ls' := [some (.ref 56), some (.int x1), some (.int x2), some (.long x1.toInt64), none, some (.int ((1 <<< ((I 57 2) &&& 31)) - 1)), none, none, none]) dX12_drawn_44 (by decide) rfl ?_
      refine zi_iconst (v := 0) dX12_drawn_46 (by decide) ?_
      refine zi_istore (ls' := [some (.ref 56), some (.int x1), some (.int x2), some (.long x1.toInt64), none, some (.int ((1 <<< ((I 57 2) &&& 31)) - 1)), some (.int 0), none, none]) dX12_drawn_47 (by decide) rfl ?_
      exact K
    · have K := K.2 (zb_0 c5)
      refine zi_aload_n dX12_drawn_24 rfl rfl ?_
      refine zi_bipush (v := (-2)) dX12_drawn_25 (by decide) ?_
      obtain ⟨r6, I7, h8, K⟩ := K
      refine zi_callV (N := mX12_refuse) (av := [.int (-2)]) (st := []) (R1 := (some (.int r6), zh b I7 L)) dX12_drawn_27 okX12_refuse u_886 u_888 s_23 zc12 (rfl) (Nat.le_of_ble_eq_true rfl) arX12_refuse rfl (Nat.le_of_ble_eq_true rfl) (h8) hR ?_
      show zA G (d + 4) mX12_drawn 30 [some (.ref 56), some (.int x1), some (.int x2), none, none, none, none, none, none] [.int r6] (zh b I7 L) R
      subst K
      exact zi_ireturn dX12_drawn_30 rfl rfl
set_option maxRecDepth 100000 in
theorem tX12_drawn_49 {G : zG} {d b : Nat} {I : Nat → Nat → Int32} {L : Nat → Nat → Int64} {R : zR} {x1 : Int32} {x2 : Int32} {x3 : Int64} {x5 : Int32} {x6 : Int32} (hR : zR0 R)
    (K : ((x2 ≤ x6 → (∃ (r2 : Int32), zCall (d + 3) mX12_bits [.int x5] (zh b I L) (some (.int r2), zh b I L) ∧ R = (some (.int r2), zh b I L))) ∧ (¬ x2 ≤ x6 → zA G (d + 4) mX12_drawn 58 [some (.ref 56), some (.int x1), some (.int x2), some (.long x3), none, some (.int x5), some (.int x6), some (.int 0), none] [] (zh b I L) R))) :
    zA G (d + 4) mX12_drawn 49 [some (.ref 56), some (.int x1), some (.int x2), some (.long x3), none, some (.int x5), some (.int x6), none, none] [] (zh b I L) R := by
  refine zi_iload dX12_drawn_49 rfl ?_
  refine zi_iload_n dX12_drawn_51 rfl rfl ?_
  refine zi_icmp_ge (tgt := 168) dX12_drawn_52 (by decide) (fun c1 => ?_) (fun c1 => ?_)
  · have K := K.1 c1
    refine zi_iload dX12_drawn_168 rfl ?_
    obtain ⟨r2, h3, K⟩ := K
    refine zi_callS (N := mX12_bits) (av := [.int x5]) (st := []) (R1 := (some (.int r2), zh b I L)) dX12_drawn_170 okX12_bits u_1109 u_1110 arX12_bits rfl (Nat.le_of_ble_eq_true rfl) (h3) hR ?_
    show zA G (d + 4) mX12_drawn 173 [some (.ref 56), some (.int x1), some (.int x2), some (.long x3), none, some (.int x5), some (.int x6), none, none] [.int r2] (zh b I L) R
    subst K
    exact zi_ireturn dX12_drawn_173 rfl rfl
  · have K := K.2 c1
    refine zi_iconst (v := 0) dX12_drawn_55 (by decide) ?_
    refine zi_istore (ls' := [some (.ref 56), some (.int x1), some (.int x2), some (.long x3), none, some (.int x5), some (.int x6), some (.int 0), none]) dX12_drawn_56 (by decide) rfl ?_
    exact K
set_option maxRecDepth 100000 in
theorem tX12_drawn_58 {G : zG} {d b : Nat} {I : Nat → Nat → Int32} {L : Nat → Nat → Int64} {R : zR} {x1 : Int32} {x2 : Int32} {x3 : Int64} {x5 : Int32} {x6 : Int32} {x7 : Int32} (hR : zR0 R)
    (K : (((I 57 2) ≤ x7 → zA G (d + 4) mX12_drawn 49 [some (.ref 56), some (.int x1), some (.int x2), some (.long x3), none, some (.int x5), some (.int (x6 + 1)), none, none] [] (zh b I L) R) ∧ (¬ (I 57 2) ≤ x7 → (∃ (I2 : Nat → Nat → Int32), zCall (d + 3) mX12_walks [.ref 56, .int x7] (zh b I L) (none, zh b I2 L) ∧ zA G (d + 4) mX12_drawn 78 [some (.ref 56), some (.int x1), some (.int x2), some (.long x3), none, some (.int x5), some (.int x6), some (.int x7), some (.int 0)] [] (zh b I2 L) R)))) :
    zA G (d + 4) mX12_drawn 58 [some (.ref 56), some (.int x1), some (.int x2), some (.long x3), none, some (.int x5), some (.int x6), some (.int x7), none] [] (zh b I L) R := by
  refine zi_iload dX12_drawn_58 rfl ?_
  refine zi_aload_n dX12_drawn_60 rfl rfl ?_
  refine zg_getF (k := 0) (v := .ref 57) dX12_drawn_61 zc12 rfl (Nat.le_of_ble_eq_true rfl) (Nat.le_of_ble_eq_true rfl) u_806 rfl (rfl) ?_
  refine zi_iconst (v := 2) dX12_drawn_64 (by decide) ?_
  refine zg_iaload dX12_drawn_65 (rfl) (Nat.le_of_ble_eq_true rfl) (zvi (by decide)) ?_
  show zA G (d + 4) mX12_drawn 66 [some (.ref 56), some (.int x1), some (.int x2), some (.long x3), none, some (.int x5), some (.int x6), some (.int x7), none] [.int (I 57 2), .int x7] (zh b I L) R
  refine zi_icmp_ge (tgt := 162) dX12_drawn_66 (by decide) (fun c1 => ?_) (fun c1 => ?_)
  · have K := K.1 c1
    refine zi_iinc (v := x6 + 1) (ls' := [some (.ref 56), some (.int x1), some (.int x2), some (.long x3), none, some (.int x5), some (.int (x6 + 1)), some (.int x7), none]) dX12_drawn_162 rfl (by decide) rfl rfl ?_
    refine zi_goto (tgt := 49) dX12_drawn_165 (by decide) ?_
    refine zi_mask [true, true, true, true, true, true, true, false, true] rfl ?_
    exact K
  · have K := K.2 c1
    refine zi_aload_n dX12_drawn_69 rfl rfl ?_
    refine zi_iload dX12_drawn_70 rfl ?_
    obtain ⟨I2, h3, K⟩ := K
    refine zi_callV (N := mX12_walks) (av := [.int x7]) (st := []) (R1 := (none, zh b I2 L)) dX12_drawn_72 okX12_walks u_1000 u_1002 s_34 zc12 (rfl) (Nat.le_of_ble_eq_true rfl) arX12_walks rfl (Nat.le_of_ble_eq_true rfl) (h3) hR ?_
    show zA G (d + 4) mX12_drawn 75 [some (.ref 56), some (.int x1), some (.int x2), some (.long x3), none, some (.int x5), some (.int x6), some (.int x7), none] [] (zh b I2 L) R
    refine zi_iconst (v := 0) dX12_drawn_75 (by decide) ?_
    refine zi_istore (ls' := [some (.ref 56), some (.int x1), some (.int x2), some (.long x3), none, some (.int x5), some (.int x6), some (.int x7), some (.int 0)]) dX12_drawn_76 (by decide) rfl ?_
    exact K
set_option maxRecDepth 100000 in
theorem tX12_drawn_78 {G : zG} {d b : Nat} {I : Nat → Nat → Int32} {L : Nat → Nat → Int64} {R : zR} {x1 : Int32} {x2 : Int32} {x3 : Int64} {x5 : Int32} {x6 : Int32} {x7 : Int32} {x8 : Int32}
    (K : (((I 57 0) ≤ x8 → zA G (d + 4) mX12_drawn 58 [some (.ref 56), some (.int x1), some (.int x2), some (.long x3), none, some (.int x5), some (.int x6), some (.int (x7 + 1)), none] [] (zh b I L) R) ∧ (¬ (I 57 0) ≤ x8 → ((¬ ((x5 >>> (x7 &&& 31)) &&& 1) = 1 → zA G (d + 4) mX12_drawn 58 [some (.ref 56), some (.int x1), some (.int x2), some (.long x3), none, some (.int x5), some (.int x6), some (.int (x7 + 1)), none] [] (zh b I L) R) ∧ (((x5 >>> (x7 &&& 31)) &&& 1) = 1 → (vp_in x8 8 ∧ ((0 ≤ (lg_cmp (zremL ((zremL ((x3 * 1103515245) + 12345) 2147483648) / 65536) 40) ((I 64 (zx x8)).toInt64)) → zA G (d + 4) mX12_drawn 78 [some (.ref 56), some (.int x1), some (.int x2), some (.long (zremL ((x3 * 1103515245) + 12345) 2147483648)), none, some (.int (x5 &&& (-1))), some (.int x6), some (.int x7), some (.int (x8 + 1))] [] (zh b I L) R) ∧ (¬ 0 ≤ (lg_cmp (zremL ((zremL ((x3 * 1103515245) + 12345) 2147483648) / 65536) 40) ((I 64 (zx x8)).toInt64)) → zA G (d + 4) mX12_drawn 78 [some (.ref 56), some (.int x1), some (.int x2), some (.long (zremL ((x3 * 1103515245) + 12345) 2147483648)), none, some (.int (x5 &&& ((1 <<< (x7 &&& 31)) ^^^ (-1)))), some (.int x6), some (.int x7), some (.int (x8 + 1))] [] (zh b I L) R)))))))) :
    zA G (d + 4) mX12_drawn 78 [some (.ref 56), some (.int x1), some (.int x2), some (.long x3), none, some (.int x5), some (.int x6), some (.int x7), some (.int x8)] [] (zh b I L) R := by
  refine zi_iload dX12_drawn_78 rfl ?_
  refine zi_aload_n dX12_drawn_80 rfl rfl ?_
  refine zg_getF (k := 0) (v := .ref 57) dX12_drawn_81 zc12 rfl (Nat.le_of_ble_eq_true rfl) (Nat.le_of_ble_eq_true rfl) u_806 rfl (rfl) ?_
  refine zi_iconst (v := 0) dX12_drawn_84 (by decide) ?_
  refine zg_iaload dX12_drawn_85 (rfl) (Nat.le_of_ble_eq_true rfl) (zvi (by decide)) ?_
  show zA G (d + 4) mX12_drawn 86 [some (.ref 56), some (.int x1), some (.int x2), some (.long x3), none, some (.int x5), some (.int x6), some (.int x7), some (.int x8)] [.int (I 57 0), .int x8] (zh b I L) R
  refine zi_icmp_ge (tgt := 156) dX12_drawn_86 (by decide) (fun c1 => ?_) (fun c1 => ?_)
  · have K := K.1 c1
    refine zi_iinc (v := x7 + 1) (ls' := [some (.ref 56), some (.int x1), some (.int x2), some (.long x3), none, some (.int x5), some (.int x6), some (.int (x7 + 1)), some (.int x8)]) dX12_drawn_156 rfl (by decide) rfl rfl ?_
    refine zi_goto (tgt := 58) dX12_drawn_159 (by decide) ?_
    refine zi_mask [true, true, true, true, true, true, true, true, false] rfl ?_
    exact K
  · have K := K.2 c1
    refine zi_iload dX12_drawn_89 rfl ?_
    refine zi_iload dX12_drawn_91 rfl ?_
    refine zi_ishr dX12_drawn_93 ?_
    refine zi_iconst (v := 1) dX12_drawn_94 (by decide) ?_
    refine zi_iand dX12_drawn_95 ?_
    refine zi_iconst (v := 1) dX12_drawn_96 (by decide) ?_
    refine zi_icmp_ne (tgt := 156) dX12_drawn_97 (by decide) (fun c2 => ?_) (fun c2 => ?_)
    · have K := K.1 c2
      refine zi_iinc (v := x7 + 1) (ls' := [some (.ref 56), some (.int x1), some (.int x2), some (.long x3), none, some (.int x5), some (.int x6), some (.int (x7 + 1)), some (.int x8)]) dX12_drawn_156 rfl (by decide) rfl rfl ?_
      refine zi_goto (tgt := 58) dX12_drawn_159 (by decide) ?_
      refine zi_mask [true, true, true, true, true, true, true, true, false] rfl ?_
      exact K
    · have K := K.2 c2
      refine zi_lload_n dX12_drawn_100 rfl rfl ?_
      refine zi_ldc2 dX12_drawn_101 u_1150 ?_
      refine zi_lmul dX12_drawn_104 ?_
      refine zi_ldc2 dX12_drawn_105 u_1151 ?_
      refine zi_ladd dX12_drawn_108 ?_
      refine zi_ldc2 dX12_drawn_109 u_1152 ?_
      refine zi_lrem dX12_drawn_112 (by decide) ?_
      refine zi_lstore_n (ls' := [some (.ref 56), some (.int x1), some (.int x2), some (.long (zremL ((x3 * 1103515245) + 12345) 2147483648)), none, some (.int x5), some (.int x6), some (.int x7), some (.int x8)]) dX12_drawn_113 rfl (by decide) rfl ?_
      refine zi_iload dX12_drawn_114 rfl ?_
      refine zi_lload_n dX12_drawn_116 rfl rfl ?_
      refine zi_ldc2 dX12_drawn_117 u_1153 ?_
      refine zi_ldiv dX12_drawn_120 (by decide) ?_
      refine zi_ldc2 dX12_drawn_121 u_1104 ?_
      refine zi_lrem dX12_drawn_124 (by decide) ?_
      refine zi_aload_n dX12_drawn_125 rfl rfl ?_
      refine zg_getF (k := 14) (v := .ref 64) dX12_drawn_126 zc12 rfl (Nat.le_of_ble_eq_true rfl) (Nat.le_of_ble_eq_true rfl) u_820 rfl (rfl) ?_
      refine zi_iload dX12_drawn_129 rfl ?_
      have o3 := K.1
      have K := K.2
      refine zg_iaload dX12_drawn_131 (rfl) (Nat.le_of_ble_eq_true rfl) o3 ?_
      refine zi_i2l dX12_drawn_132 ?_
      refine zi_lcmp dX12_drawn_133 ?_
      refine zi_if_ge (tgt := 146) dX12_drawn_134 (by decide) (fun c4 => ?_) (fun c4 => ?_)
      · have K := K.1 c4
        refine zi_iconst (v := (-1)) dX12_drawn_146 (by decide) ?_
        refine zi_iand dX12_drawn_147 ?_
        refine zi_istore (ls' := [some (.ref 56), some (.int x1), some (.int x2), some (.long (zremL ((x3 * 1103515245) + 12345) 2147483648)), none, some (.int (x5 &&& (-1))), some (.int x6), some (.int x7), some (.int x8)]) dX12_drawn_148 (by decide) rfl ?_
        refine zi_iinc (v := x8 + 1) (ls' := [some (.ref 56), some (.int x1), some (.int x2), some (.long (zremL ((x3 * 1103515245) + 12345) 2147483648)), none, some (.int (x5 &&& (-1))), some (.int x6), some (.int x7), some (.int (x8 + 1))]) dX12_drawn_150 rfl (by decide) rfl rfl ?_
        refine zi_goto (tgt := 78) dX12_drawn_153 (by decide) ?_
        exact K
      · have K := K.2 c4
        refine zi_iconst (v := 1) dX12_drawn_137 (by decide) ?_
        refine zi_iload dX12_drawn_138 rfl ?_
        refine zi_ishl dX12_drawn_140 ?_
        refine zi_iconst (v := (-1)) dX12_drawn_141 (by decide) ?_
        refine zi_ixor dX12_drawn_142 ?_
        refine zi_goto (tgt := 147) dX12_drawn_143 (by decide) ?_
        refine zi_iand dX12_drawn_147 ?_
        refine zi_istore (ls' := [some (.ref 56), some (.int x1), some (.int x2), some (.long (zremL ((x3 * 1103515245) + 12345) 2147483648)), none, some (.int (x5 &&& ((1 <<< (x7 &&& 31)) ^^^ (-1)))), some (.int x6), some (.int x7), some (.int x8)]) dX12_drawn_148 (by decide) rfl ?_
        refine zi_iinc (v := x8 + 1) (ls' := [some (.ref 56), some (.int x1), some (.int x2), some (.long (zremL ((x3 * 1103515245) + 12345) 2147483648)), none, some (.int (x5 &&& ((1 <<< (x7 &&& 31)) ^^^ (-1)))), some (.int x6), some (.int x7), some (.int (x8 + 1))]) dX12_drawn_150 rfl (by decide) rfl rfl ?_
        refine zi_goto (tgt := 78) dX12_drawn_153 (by decide) ?_
        exact K
set_option maxRecDepth 100000 in
theorem tX12_part_0 {G : zG} {d b : Nat} {I : Nat → Nat → Int32} {L : Nat → Nat → Int64} {R : zR} {x1 : Int32} (hR : zR0 R)
    (K : ((¬ x1 = 0 → ((¬ x1 = 1 → (∃ (r3 : Int32) (I4 : Nat → Nat → Int32), zCall d mX12_refuse [.ref 56, .int (-2)] (zh b I L) (some (.int r3), zh b I4 L) ∧ R = (some (.long r3.toInt64), zh b I4 L))) ∧ (x1 = 1 → R = (some (.long (L 56 7)), zh b I L)))) ∧ (x1 = 0 → R = (some (.long (L 56 6)), zh b I L)))) :
    zA G (d + 1) mX12_part 0 [some (.ref 56), some (.int x1)] [] (zh b I L) R := by
  refine zi_iload_n dX12_part_0 rfl rfl ?_
  refine zi_if_ne (tgt := 11) dX12_part_1 (by decide) (fun c1 => ?_) (fun c1 => ?_)
  · have K := K.1 c1
    refine zi_iload_n dX12_part_11 rfl rfl ?_
    refine zi_iconst (v := 1) dX12_part_12 (by decide) ?_
    refine zi_icmp_ne (tgt := 23) dX12_part_13 (by decide) (fun c2 => ?_) (fun c2 => ?_)
    · have K := K.1 c2
      refine zi_aload_n dX12_part_23 rfl rfl ?_
      refine zi_bipush (v := (-2)) dX12_part_24 (by decide) ?_
      obtain ⟨r3, I4, h5, K⟩ := K
      refine zi_callV (N := mX12_refuse) (av := [.int (-2)]) (st := []) (R1 := (some (.int r3), zh b I4 L)) dX12_part_26 okX12_refuse u_886 u_888 s_23 zc12 (rfl) (Nat.le_of_ble_eq_true rfl) arX12_refuse rfl (Nat.le_of_ble_eq_true rfl) (h5) hR ?_
      show zA G (d + 1) mX12_part 29 [some (.ref 56), some (.int x1)] [.int r3] (zh b I4 L) R
      refine zi_i2l dX12_part_29 ?_
      subst K
      exact zi_lreturn dX12_part_30 rfl
    · have K := K.2 c2
      refine zi_aload_n dX12_part_16 rfl rfl ?_
      refine zg_getL (k := 7) dX12_part_17 zc12 rfl (Nat.le_of_ble_eq_true rfl) (Nat.le_of_ble_eq_true rfl) u_813 rfl ?_
      refine zi_goto (tgt := 30) dX12_part_20 (by decide) ?_
      subst K
      exact zi_lreturn dX12_part_30 rfl
  · have K := K.2 c1
    refine zi_aload_n dX12_part_4 rfl rfl ?_
    refine zg_getL (k := 6) dX12_part_5 zc12 rfl (Nat.le_of_ble_eq_true rfl) (Nat.le_of_ble_eq_true rfl) u_812 rfl ?_
    refine zi_goto (tgt := 30) dX12_part_8 (by decide) ?_
    subst K
    exact zi_lreturn dX12_part_30 rfl
set_option maxRecDepth 100000 in
theorem tX12_image_0 {G : zG} {d b : Nat} {I : Nat → Nat → Int32} {L : Nat → Nat → Int64} {R : zR} {x1 : Int32} (hR : zR0 R)
    (K : (((0 ≤ x1.toInt64 ∧ x1.toInt64 ≤ 1) → (∃ (I2 : Nat → Nat → Int32), zCall d mX12_copy [.ref 57, .int 0, .ref 59, .int (463 * x1)] (zh b I L) (none, zh b I2 L) ∧ (vp_in x1 2 ∧ R = (some (.int 1), zh b (zup I2 60 (zx x1) 1) L)))) ∧ (¬ (0 ≤ x1.toInt64 ∧ x1.toInt64 ≤ 1) → (∃ (r5 : Int32) (I6 : Nat → Nat → Int32), zCall d mX12_refuse [.ref 56, .int (-2)] (zh b I L) (some (.int r5), zh b I6 L) ∧ R = (some (.int r5), zh b I6 L))))) :
    zA G (d + 1) mX12_image 0 [some (.ref 56), some (.int x1)] [] (zh b I L) R := by
  refine zi_iload_n dX12_image_0 rfl rfl ?_
  refine zi_i2l dX12_image_1 ?_
  refine zi_lconst (v := 0) dX12_image_2 (by decide) ?_
  refine zi_lconst (v := 1) dX12_image_3 (by decide) ?_
  refine zi_callS (N := mX12_in) (av := [.long x1.toInt64, .long 0, .long 1]) (st := []) (R1 := (some (.int (zb (0 ≤ x1.toInt64 ∧ x1.toInt64 ≤ 1))), zh b I L)) dX12_image_4 okX12_in u_803 u_804 arX12_in rfl (Nat.le_of_ble_eq_true rfl) (kX12_in _ _ _) hR ?_
  show zA G (d + 1) mX12_image 7 [some (.ref 56), some (.int x1)] [.int (zb (0 ≤ x1.toInt64 ∧ x1.toInt64 ≤ 1))] (zh b I L) R
  refine zi_if_ne (tgt := 17) dX12_image_7 (by decide) (fun c1 => ?_) (fun c1 => ?_)
  · have K := K.1 (zb_1 c1)
    refine zi_aload_n dX12_image_17 rfl rfl ?_
    refine zg_getF (k := 0) (v := .ref 57) dX12_image_18 zc12 rfl (Nat.le_of_ble_eq_true rfl) (Nat.le_of_ble_eq_true rfl) u_806 rfl (rfl) ?_
    refine zi_iconst (v := 0) dX12_image_21 (by decide) ?_
    refine zi_aload_n dX12_image_22 rfl rfl ?_
    refine zg_getF (k := 2) (v := .ref 59) dX12_image_23 zc12 rfl (Nat.le_of_ble_eq_true rfl) (Nat.le_of_ble_eq_true rfl) u_808 rfl (rfl) ?_
    refine zi_sipush (v := 463) dX12_image_26 (by decide) ?_
    refine zi_iload_n dX12_image_29 rfl rfl ?_
    refine zi_imul dX12_image_30 ?_
    obtain ⟨I2, h3, K⟩ := K
    refine zi_callS (N := mX12_copy) (av := [.ref 57, .int 0, .ref 59, .int (463 * x1)]) (st := []) (R1 := (none, zh b I2 L)) dX12_image_31 okX12_copy u_993 u_994 arX12_copy rfl (Nat.le_of_ble_eq_true rfl) (h3) hR ?_
    show zA G (d + 1) mX12_image 34 [some (.ref 56), some (.int x1)] [] (zh b I2 L) R
    refine zi_aload_n dX12_image_34 rfl rfl ?_
    refine zg_getF (k := 3) (v := .ref 60) dX12_image_35 zc12 rfl (Nat.le_of_ble_eq_true rfl) (Nat.le_of_ble_eq_true rfl) u_809 rfl (rfl) ?_
    refine zi_iload_n dX12_image_38 rfl rfl ?_
    refine zi_iconst (v := 1) dX12_image_39 (by decide) ?_
    have o4 := K.1
    have K := K.2
    refine zg_zastore dX12_image_40 (rfl) (Nat.le_of_ble_eq_true rfl) o4 (by decide) ?_
    refine zi_iconst (v := 1) dX12_image_41 (by decide) ?_
    subst K
    exact zi_ireturn dX12_image_42 rfl rfl
  · have K := K.2 (zb_0 c1)
    refine zi_aload_n dX12_image_10 rfl rfl ?_
    refine zi_bipush (v := (-2)) dX12_image_11 (by decide) ?_
    obtain ⟨r5, I6, h7, K⟩ := K
    refine zi_callV (N := mX12_refuse) (av := [.int (-2)]) (st := []) (R1 := (some (.int r5), zh b I6 L)) dX12_image_13 okX12_refuse u_886 u_888 s_23 zc12 (rfl) (Nat.le_of_ble_eq_true rfl) arX12_refuse rfl (Nat.le_of_ble_eq_true rfl) (h7) hR ?_
    show zA G (d + 1) mX12_image 16 [some (.ref 56), some (.int x1)] [.int r5] (zh b I6 L) R
    subst K
    exact zi_ireturn dX12_image_16 rfl rfl
set_option maxRecDepth 100000 in
theorem tX12_from_0 {G : zG} {d b : Nat} {I : Nat → Nat → Int32} {L : Nat → Nat → Int64} {R : zR} {x1 : Int32} (hR : zR0 R)
    (K : (((0 ≤ x1.toInt64 ∧ x1.toInt64 ≤ 1) → (vp_in x1 2 ∧ ((¬ (I 60 (zx x1)) = 0 → (∃ (I4 : Nat → Nat → Int32), zCall d mX12_copy [.ref 59, .int (463 * x1), .ref 57, .int 0] (zh b I L) (none, zh b I4 L) ∧ R = (some (.int 1), zh b I4 L))) ∧ ((I 60 (zx x1)) = 0 → (∃ (r6 : Int32) (I7 : Nat → Nat → Int32), zCall d mX12_refuse [.ref 56, .int (-3)] (zh b I L) (some (.int r6), zh b I7 L) ∧ R = (some (.int r6), zh b I7 L)))))) ∧ (¬ (0 ≤ x1.toInt64 ∧ x1.toInt64 ≤ 1) → (∃ (r9 : Int32) (I10 : Nat → Nat → Int32), zCall d mX12_refuse [.ref 56, .int (-2)] (zh b I L) (some (.int r9), zh b I10 L) ∧ R = (some (.int r9), zh b I10 L))))) :
    zA G (d + 1) mX12_from 0 [some (.ref 56), some (.int x1)] [] (zh b I L) R := by
  refine zi_iload_n dX12_from_0 rfl rfl ?_
  refine zi_i2l dX12_from_1 ?_
  refine zi_lconst (v := 0) dX12_from_2 (by decide) ?_
  refine zi_lconst (v := 1) dX12_from_3 (by decide) ?_
  refine zi_callS (N := mX12_in) (av := [.long x1.toInt64, .long 0, .long 1]) (st := []) (R1 := (some (.int (zb (0 ≤ x1.toInt64 ∧ x1.toInt64 ≤ 1))), zh b I L)) dX12_from_4 okX12_in u_803 u_804 arX12_in rfl (Nat.le_of_ble_eq_true rfl) (kX12_in _ _ _) hR ?_
  show zA G (d + 1) mX12_from 7 [some (.ref 56), some (.int x1)] [.int (zb (0 ≤ x1.toInt64 ∧ x1.toInt64 ≤ 1))] (zh b I L) R
  refine zi_if_ne (tgt := 17) dX12_from_7 (by decide) (fun c1 => ?_) (fun c1 => ?_)
  · have K := K.1 (zb_1 c1)
    refine zi_aload_n dX12_from_17 rfl rfl ?_
    refine zg_getF (k := 3) (v := .ref 60) dX12_from_18 zc12 rfl (Nat.le_of_ble_eq_true rfl) (Nat.le_of_ble_eq_true rfl) u_809 rfl (rfl) ?_
    refine zi_iload_n dX12_from_21 rfl rfl ?_
    have o2 := K.1
    have K := K.2
    refine zg_zaload dX12_from_22 (rfl) (Nat.le_of_ble_eq_true rfl) o2 ?_
    refine zi_if_ne (tgt := 33) dX12_from_23 (by decide) (fun c3 => ?_) (fun c3 => ?_)
    · have K := K.1 c3
      refine zi_aload_n dX12_from_33 rfl rfl ?_
      refine zg_getF (k := 2) (v := .ref 59) dX12_from_34 zc12 rfl (Nat.le_of_ble_eq_true rfl) (Nat.le_of_ble_eq_true rfl) u_808 rfl (rfl) ?_
      refine zi_sipush (v := 463) dX12_from_37 (by decide) ?_
      refine zi_iload_n dX12_from_40 rfl rfl ?_
      refine zi_imul dX12_from_41 ?_
      refine zi_aload_n dX12_from_42 rfl rfl ?_
      refine zg_getF (k := 0) (v := .ref 57) dX12_from_43 zc12 rfl (Nat.le_of_ble_eq_true rfl) (Nat.le_of_ble_eq_true rfl) u_806 rfl (rfl) ?_
      refine zi_iconst (v := 0) dX12_from_46 (by decide) ?_
      obtain ⟨I4, h5, K⟩ := K
      refine zi_callS (N := mX12_copy) (av := [.ref 59, .int (463 * x1), .ref 57, .int 0]) (st := []) (R1 := (none, zh b I4 L)) dX12_from_47 okX12_copy u_993 u_994 arX12_copy rfl (Nat.le_of_ble_eq_true rfl) (h5) hR ?_
      show zA G (d + 1) mX12_from 50 [some (.ref 56), some (.int x1)] [] (zh b I4 L) R
      refine zi_iconst (v := 1) dX12_from_50 (by decide) ?_
      subst K
      exact zi_ireturn dX12_from_51 rfl rfl
    · have K := K.2 c3
      refine zi_aload_n dX12_from_26 rfl rfl ?_
      refine zi_bipush (v := (-3)) dX12_from_27 (by decide) ?_
      obtain ⟨r6, I7, h8, K⟩ := K
      refine zi_callV (N := mX12_refuse) (av := [.int (-3)]) (st := []) (R1 := (some (.int r6), zh b I7 L)) dX12_from_29 okX12_refuse u_886 u_888 s_23 zc12 (rfl) (Nat.le_of_ble_eq_true rfl) arX12_refuse rfl (Nat.le_of_ble_eq_true rfl) (h8) hR ?_
      show zA G (d + 1) mX12_from 32 [some (.ref 56), some (.int x1)] [.int r6] (zh b I7 L) R
      subst K
      exact zi_ireturn dX12_from_32 rfl rfl
  · have K := K.2 (zb_0 c1)
    refine zi_aload_n dX12_from_10 rfl rfl ?_
    refine zi_bipush (v := (-2)) dX12_from_11 (by decide) ?_
    obtain ⟨r9, I10, h11, K⟩ := K
    refine zi_callV (N := mX12_refuse) (av := [.int (-2)]) (st := []) (R1 := (some (.int r9), zh b I10 L)) dX12_from_13 okX12_refuse u_886 u_888 s_23 zc12 (rfl) (Nat.le_of_ble_eq_true rfl) arX12_refuse rfl (Nat.le_of_ble_eq_true rfl) (h11) hR ?_
    show zA G (d + 1) mX12_from 16 [some (.ref 56), some (.int x1)] [.int r9] (zh b I10 L) R
    subst K
    exact zi_ireturn dX12_from_16 rfl rfl
set_option maxRecDepth 100000 in
theorem tX12_status_0 {G : zG} {d b : Nat} {I : Nat → Nat → Int32} {L : Nat → Nat → Int64} {R : zR} {x1 : Int32} (hR : zR0 R)
    (K : ((¬ (0 ≤ x1.toInt64 ∧ x1.toInt64 ≤ 2) → (∃ (r2 : Int32) (I3 : Nat → Nat → Int32), zCall d mX12_refuse [.ref 56, .int (-2)] (zh b I L) (some (.int r2), zh b I3 L) ∧ R = (some (.int (r2 + 1)), zh b I3 L))) ∧ ((0 ≤ x1.toInt64 ∧ x1.toInt64 ≤ 2) → (vp_in x1 3 ∧ R = (some (.int (I 62 (zx x1))), zh b I L))))) :
    zA G (d + 1) mX12_status 0 [some (.ref 56), some (.int x1)] [] (zh b I L) R := by
  refine zi_iload_n dX12_status_0 rfl rfl ?_
  refine zi_i2l dX12_status_1 ?_
  refine zi_lconst (v := 0) dX12_status_2 (by decide) ?_
  refine zi_ldc2 dX12_status_3 u_930 ?_
  refine zi_callS (N := mX12_in) (av := [.long x1.toInt64, .long 0, .long 2]) (st := []) (R1 := (some (.int (zb (0 ≤ x1.toInt64 ∧ x1.toInt64 ≤ 2))), zh b I L)) dX12_status_6 okX12_in u_803 u_804 arX12_in rfl (Nat.le_of_ble_eq_true rfl) (kX12_in _ _ _) hR ?_
  show zA G (d + 1) mX12_status 9 [some (.ref 56), some (.int x1)] [.int (zb (0 ≤ x1.toInt64 ∧ x1.toInt64 ≤ 2))] (zh b I L) R
  refine zi_if_eq (tgt := 21) dX12_status_9 (by decide) (fun c1 => ?_) (fun c1 => ?_)
  · have K := K.1 (zb_0 c1)
    refine zi_aload_n dX12_status_21 rfl rfl ?_
    refine zi_bipush (v := (-2)) dX12_status_22 (by decide) ?_
    obtain ⟨r2, I3, h4, K⟩ := K
    refine zi_callV (N := mX12_refuse) (av := [.int (-2)]) (st := []) (R1 := (some (.int r2), zh b I3 L)) dX12_status_24 okX12_refuse u_886 u_888 s_23 zc12 (rfl) (Nat.le_of_ble_eq_true rfl) arX12_refuse rfl (Nat.le_of_ble_eq_true rfl) (h4) hR ?_
    show zA G (d + 1) mX12_status 27 [some (.ref 56), some (.int x1)] [.int r2] (zh b I3 L) R
    refine zi_iconst (v := 1) dX12_status_27 (by decide) ?_
    refine zi_iadd dX12_status_28 ?_
    subst K
    exact zi_ireturn dX12_status_29 rfl rfl
  · have K := K.2 (zb_1 c1)
    refine zi_aload_n dX12_status_12 rfl rfl ?_
    refine zg_getF (k := 8) (v := .ref 62) dX12_status_13 zc12 rfl (Nat.le_of_ble_eq_true rfl) (Nat.le_of_ble_eq_true rfl) u_814 rfl (rfl) ?_
    refine zi_iload_n dX12_status_16 rfl rfl ?_
    have o5 := K.1
    have K := K.2
    refine zg_iaload dX12_status_17 (rfl) (Nat.le_of_ble_eq_true rfl) o5 ?_
    refine zi_goto (tgt := 29) dX12_status_18 (by decide) ?_
    subst K
    exact zi_ireturn dX12_status_29 rfl rfl
set_option maxRecDepth 100000 in
theorem tX12_counted_0 {G : zG} {d b : Nat} {I : Nat → Nat → Int32} {L : Nat → Nat → Int64} {R : zR} {x1 : Int32}
    (K : ((¬ x1 = 5 → ((¬ x1 = 0 → ((¬ x1 = 1 → ((¬ x1 = 2 → ((¬ x1 = 3 → R = (some (.int (I 57 4)), zh b I L)) ∧ (x1 = 3 → R = (some (.int (I 57 3)), zh b I L)))) ∧ (x1 = 2 → R = (some (.int (I 57 2)), zh b I L)))) ∧ (x1 = 1 → R = (some (.int (I 57 1)), zh b I L)))) ∧ (x1 = 0 → R = (some (.int (I 57 0)), zh b I L)))) ∧ (x1 = 5 → R = (some (.int (I 56 5)), zh b I L)))) :
    zA G d mX12_counted 0 [some (.ref 56), some (.int x1)] [] (zh b I L) R := by
  refine zi_iload_n dX12_counted_0 rfl rfl ?_
  refine zi_iconst (v := 5) dX12_counted_1 (by decide) ?_
  refine zi_icmp_ne (tgt := 12) dX12_counted_2 (by decide) (fun c1 => ?_) (fun c1 => ?_)
  · have K := K.1 c1
    refine zi_aload_n dX12_counted_12 rfl rfl ?_
    refine zg_getF (k := 0) (v := .ref 57) dX12_counted_13 zc12 rfl (Nat.le_of_ble_eq_true rfl) (Nat.le_of_ble_eq_true rfl) u_806 rfl (rfl) ?_
    refine zi_iload_n dX12_counted_16 rfl rfl ?_
    refine zi_if_ne (tgt := 24) dX12_counted_17 (by decide) (fun c2 => ?_) (fun c2 => ?_)
    · have K := K.1 c2
      refine zi_iload_n dX12_counted_24 rfl rfl ?_
      refine zi_iconst (v := 1) dX12_counted_25 (by decide) ?_
      refine zi_icmp_ne (tgt := 33) dX12_counted_26 (by decide) (fun c3 => ?_) (fun c3 => ?_)
      · have K := K.1 c3
        refine zi_iload_n dX12_counted_33 rfl rfl ?_
        refine zi_iconst (v := 2) dX12_counted_34 (by decide) ?_
        refine zi_icmp_ne (tgt := 42) dX12_counted_35 (by decide) (fun c4 => ?_) (fun c4 => ?_)
        · have K := K.1 c4
          refine zi_iload_n dX12_counted_42 rfl rfl ?_
          refine zi_iconst (v := 3) dX12_counted_43 (by decide) ?_
          refine zi_icmp_ne (tgt := 51) dX12_counted_44 (by decide) (fun c5 => ?_) (fun c5 => ?_)
          · have K := K.1 c5
            refine zi_iconst (v := 4) dX12_counted_51 (by decide) ?_
            refine zg_iaload dX12_counted_52 (rfl) (Nat.le_of_ble_eq_true rfl) (zvi (by decide)) ?_
            show zA G d mX12_counted 53 [some (.ref 56), some (.int x1)] [.int (I 57 4)] (zh b I L) R
            subst K
            exact zi_ireturn dX12_counted_53 rfl rfl
          · have K := K.2 c5
            refine zi_iconst (v := 3) dX12_counted_47 (by decide) ?_
            refine zi_goto (tgt := 52) dX12_counted_48 (by decide) ?_
            refine zg_iaload dX12_counted_52 (rfl) (Nat.le_of_ble_eq_true rfl) (zvi (by decide)) ?_
            show zA G d mX12_counted 53 [some (.ref 56), some (.int x1)] [.int (I 57 3)] (zh b I L) R
            subst K
            exact zi_ireturn dX12_counted_53 rfl rfl
        · have K := K.2 c4
          refine zi_iconst (v := 2) dX12_counted_38 (by decide) ?_
          refine zi_goto (tgt := 52) dX12_counted_39 (by decide) ?_
          refine zg_iaload dX12_counted_52 (rfl) (Nat.le_of_ble_eq_true rfl) (zvi (by decide)) ?_
          show zA G d mX12_counted 53 [some (.ref 56), some (.int x1)] [.int (I 57 2)] (zh b I L) R
          subst K
          exact zi_ireturn dX12_counted_53 rfl rfl
      · have K := K.2 c3
        refine zi_iconst (v := 1) dX12_counted_29 (by decide) ?_
        refine zi_goto (tgt := 52) dX12_counted_30 (by decide) ?_
        refine zg_iaload dX12_counted_52 (rfl) (Nat.le_of_ble_eq_true rfl) (zvi (by decide)) ?_
        show zA G d mX12_counted 53 [some (.ref 56), some (.int x1)] [.int (I 57 1)] (zh b I L) R
        subst K
        exact zi_ireturn dX12_counted_53 rfl rfl
    · have K := K.2 c2
      refine zi_iconst (v := 0) dX12_counted_20 (by decide) ?_
      refine zi_goto (tgt := 52) dX12_counted_21 (by decide) ?_
      refine zg_iaload dX12_counted_52 (rfl) (Nat.le_of_ble_eq_true rfl) (zvi (by decide)) ?_
      show zA G d mX12_counted 53 [some (.ref 56), some (.int x1)] [.int (I 57 0)] (zh b I L) R
      subst K
      exact zi_ireturn dX12_counted_53 rfl rfl
  · have K := K.2 c1
    refine zi_aload_n dX12_counted_5 rfl rfl ?_
    refine zg_getI (k := 5) dX12_counted_6 zc12 rfl (Nat.le_of_ble_eq_true rfl) (Nat.le_of_ble_eq_true rfl) u_811 rfl ?_
    refine zi_goto (tgt := 53) dX12_counted_9 (by decide) ?_
    subst K
    exact zi_ireturn dX12_counted_53 rfl rfl
set_option maxRecDepth 100000 in
theorem tX12_count_0 {G : zG} {d b : Nat} {I : Nat → Nat → Int32} {L : Nat → Nat → Int64} {R : zR} {x1 : Int32} (hR : zR0 R)
    (K : ((¬ (0 ≤ x1.toInt64 ∧ x1.toInt64 ≤ 5) → (∃ (r2 : Int32) (I3 : Nat → Nat → Int32), zCall d mX12_refuse [.ref 56, .int (-2)] (zh b I L) (some (.int r2), zh b I3 L) ∧ R = (some (.int r2), zh b I3 L))) ∧ ((0 ≤ x1.toInt64 ∧ x1.toInt64 ≤ 5) → (∃ (r5 : Int32), zCall d mX12_counted [.ref 56, .int x1] (zh b I L) (some (.int r5), zh b I L) ∧ R = (some (.int r5), zh b I L))))) :
    zA G (d + 1) mX12_count 0 [some (.ref 56), some (.int x1)] [] (zh b I L) R := by
  refine zi_iload_n dX12_count_0 rfl rfl ?_
  refine zi_i2l dX12_count_1 ?_
  refine zi_lconst (v := 0) dX12_count_2 (by decide) ?_
  refine zi_ldc2 dX12_count_3 u_801 ?_
  refine zi_callS (N := mX12_in) (av := [.long x1.toInt64, .long 0, .long 5]) (st := []) (R1 := (some (.int (zb (0 ≤ x1.toInt64 ∧ x1.toInt64 ≤ 5))), zh b I L)) dX12_count_6 okX12_in u_803 u_804 arX12_in rfl (Nat.le_of_ble_eq_true rfl) (kX12_in _ _ _) hR ?_
  show zA G (d + 1) mX12_count 9 [some (.ref 56), some (.int x1)] [.int (zb (0 ≤ x1.toInt64 ∧ x1.toInt64 ≤ 5))] (zh b I L) R
  refine zi_if_eq (tgt := 20) dX12_count_9 (by decide) (fun c1 => ?_) (fun c1 => ?_)
  · have K := K.1 (zb_0 c1)
    refine zi_aload_n dX12_count_20 rfl rfl ?_
    refine zi_bipush (v := (-2)) dX12_count_21 (by decide) ?_
    obtain ⟨r2, I3, h4, K⟩ := K
    refine zi_callV (N := mX12_refuse) (av := [.int (-2)]) (st := []) (R1 := (some (.int r2), zh b I3 L)) dX12_count_23 okX12_refuse u_886 u_888 s_23 zc12 (rfl) (Nat.le_of_ble_eq_true rfl) arX12_refuse rfl (Nat.le_of_ble_eq_true rfl) (h4) hR ?_
    show zA G (d + 1) mX12_count 26 [some (.ref 56), some (.int x1)] [.int r2] (zh b I3 L) R
    subst K
    exact zi_ireturn dX12_count_26 rfl rfl
  · have K := K.2 (zb_1 c1)
    refine zi_aload_n dX12_count_12 rfl rfl ?_
    refine zi_iload_n dX12_count_13 rfl rfl ?_
    obtain ⟨r5, h6, K⟩ := K
    refine zi_callV (N := mX12_counted) (av := [.int x1]) (st := []) (R1 := (some (.int r5), zh b I L)) dX12_count_14 okX12_counted u_1174 u_1176 s_49 zc12 (rfl) (Nat.le_of_ble_eq_true rfl) arX12_counted rfl (Nat.le_of_ble_eq_true rfl) (h6) hR ?_
    show zA G (d + 1) mX12_count 17 [some (.ref 56), some (.int x1)] [.int r5] (zh b I L) R
    refine zi_goto (tgt := 26) dX12_count_17 (by decide) ?_
    subst K
    exact zi_ireturn dX12_count_26 rfl rfl
set_option maxRecDepth 100000 in
theorem tX12_digest_0 {G : zG} {d b : Nat} {I : Nat → Nat → Int32} {L : Nat → Nat → Int64} {R : zR} 
    (K : zA G (d + 1) mX12_digest 6 [some (.ref 56), some (.long 809), none, some (.int 0), none] [] (zh b I L) R) :
    zA G (d + 1) mX12_digest 0 [some (.ref 56), none, none, none, none] [] (zh b I L) R := by
  refine zi_ldc2 dX12_digest_0 u_1182 ?_
  refine zi_lstore_n (ls' := [some (.ref 56), some (.long 809), none, none, none]) dX12_digest_3 rfl (by decide) rfl ?_
  refine zi_iconst (v := 0) dX12_digest_4 (by decide) ?_
  refine zi_istore_n (ls' := [some (.ref 56), some (.long 809), none, some (.int 0), none]) dX12_digest_5 rfl (by decide) rfl ?_
  exact K
set_option maxRecDepth 100000 in
theorem tX12_digest_6 {G : zG} {d b : Nat} {I : Nat → Nat → Int32} {L : Nat → Nat → Int64} {R : zR} {x1 : Int64} {x3 : Int32} (hR : zR0 R)
    (K : ((6 ≤ x3 → zA G (d + 1) mX12_digest 33 [some (.ref 56), some (.long x1), none, some (.int 0), none] [] (zh b I L) R) ∧ (¬ 6 ≤ x3 → (∃ (r2 : Int32), zCall d mX12_counted [.ref 56, .int x3] (zh b I L) (some (.int r2), zh b I L) ∧ zA G (d + 1) mX12_digest 6 [some (.ref 56), some (.long ((31 * x1) + r2.toInt64)), none, some (.int (x3 + 1)), none] [] (zh b I L) R)))) :
    zA G (d + 1) mX12_digest 6 [some (.ref 56), some (.long x1), none, some (.int x3), none] [] (zh b I L) R := by
  refine zi_iload_n dX12_digest_6 rfl rfl ?_
  refine zi_bipush (v := 6) dX12_digest_7 (by decide) ?_
  refine zi_icmp_ge (tgt := 31) dX12_digest_9 (by decide) (fun c1 => ?_) (fun c1 => ?_)
  · have K := K.1 c1
    refine zi_iconst (v := 0) dX12_digest_31 (by decide) ?_
    refine zi_istore_n (ls' := [some (.ref 56), some (.long x1), none, some (.int 0), none]) dX12_digest_32 rfl (by decide) rfl ?_
    exact K
  · have K := K.2 c1
    refine zi_ldc2 dX12_digest_12 u_1183 ?_
    refine zi_lload_n dX12_digest_15 rfl rfl ?_
    refine zi_lmul dX12_digest_16 ?_
    refine zi_aload_n dX12_digest_17 rfl rfl ?_
    refine zi_iload_n dX12_digest_18 rfl rfl ?_
    obtain ⟨r2, h3, K⟩ := K
    refine zi_callV (N := mX12_counted) (av := [.int x3]) (st := [.long (31 * x1)]) (R1 := (some (.int r2), zh b I L)) dX12_digest_19 okX12_counted u_1174 u_1176 s_49 zc12 (rfl) (Nat.le_of_ble_eq_true rfl) arX12_counted rfl (Nat.le_of_ble_eq_true rfl) (h3) hR ?_
    show zA G (d + 1) mX12_digest 22 [some (.ref 56), some (.long x1), none, some (.int x3), none] [.int r2, .long (31 * x1)] (zh b I L) R
    refine zi_i2l dX12_digest_22 ?_
    refine zi_ladd dX12_digest_23 ?_
    refine zi_lstore_n (ls' := [some (.ref 56), some (.long ((31 * x1) + r2.toInt64)), none, some (.int x3), none]) dX12_digest_24 rfl (by decide) rfl ?_
    refine zi_iinc (v := x3 + 1) (ls' := [some (.ref 56), some (.long ((31 * x1) + r2.toInt64)), none, some (.int (x3 + 1)), none]) dX12_digest_25 rfl (by decide) rfl rfl ?_
    refine zi_goto (tgt := 6) dX12_digest_28 (by decide) ?_
    exact K
set_option maxRecDepth 100000 in
theorem tX12_digest_33 {G : zG} {d b : Nat} {I : Nat → Nat → Int32} {L : Nat → Nat → Int64} {R : zR} {x1 : Int64} {x3 : Int32}
    (K : (((I 57 0) ≤ x3 → zA G (d + 1) mX12_digest 109 [some (.ref 56), some (.long x1), none, some (.int 0), none] [] (zh b I L) R) ∧ (¬ (I 57 0) ≤ x3 → zA G (d + 1) mX12_digest 46 [some (.ref 56), some (.long x1), none, some (.int x3), some (.int 0)] [] (zh b I L) R))) :
    zA G (d + 1) mX12_digest 33 [some (.ref 56), some (.long x1), none, some (.int x3), none] [] (zh b I L) R := by
  refine zi_iload_n dX12_digest_33 rfl rfl ?_
  refine zi_aload_n dX12_digest_34 rfl rfl ?_
  refine zg_getF (k := 0) (v := .ref 57) dX12_digest_35 zc12 rfl (Nat.le_of_ble_eq_true rfl) (Nat.le_of_ble_eq_true rfl) u_806 rfl (rfl) ?_
  refine zi_iconst (v := 0) dX12_digest_38 (by decide) ?_
  refine zg_iaload dX12_digest_39 (rfl) (Nat.le_of_ble_eq_true rfl) (zvi (by decide)) ?_
  show zA G (d + 1) mX12_digest 40 [some (.ref 56), some (.long x1), none, some (.int x3), none] [.int (I 57 0), .int x3] (zh b I L) R
  refine zi_icmp_ge (tgt := 107) dX12_digest_40 (by decide) (fun c1 => ?_) (fun c1 => ?_)
  · have K := K.1 c1
    refine zi_iconst (v := 0) dX12_digest_107 (by decide) ?_
    refine zi_istore_n (ls' := [some (.ref 56), some (.long x1), none, some (.int 0), none]) dX12_digest_108 rfl (by decide) rfl ?_
    exact K
  · have K := K.2 c1
    refine zi_iconst (v := 0) dX12_digest_43 (by decide) ?_
    refine zi_istore (ls' := [some (.ref 56), some (.long x1), none, some (.int x3), some (.int 0)]) dX12_digest_44 (by decide) rfl ?_
    exact K
set_option maxRecDepth 100000 in
theorem tX12_digest_46 {G : zG} {d b : Nat} {I : Nat → Nat → Int32} {L : Nat → Nat → Int64} {R : zR} {x1 : Int64} {x3 : Int32} {x4 : Int32} (hR : zR0 R)
    (K : (((I 57 1) ≤ x4 → zA G (d + 1) mX12_digest 33 [some (.ref 56), some (.long x1), none, some (.int (x3 + 1)), none] [] (zh b I L) R) ∧ (¬ (I 57 1) ≤ x4 → (vp_in (zca 0 x3 x4) 463 ∧ (vp_in (zca 1 x3 x4) 463 ∧ zA G (d + 1) mX12_digest 46 [some (.ref 56), some (.long ((31 * ((31 * x1) + ((I 57 (zx (zca 0 x3 x4))).toInt64))) + ((I 57 (zx (zca 1 x3 x4))).toInt64))), none, some (.int x3), some (.int (x4 + 1))] [] (zh b I L) R))))) :
    zA G (d + 1) mX12_digest 46 [some (.ref 56), some (.long x1), none, some (.int x3), some (.int x4)] [] (zh b I L) R := by
  refine zi_iload dX12_digest_46 rfl ?_
  refine zi_aload_n dX12_digest_48 rfl rfl ?_
  refine zg_getF (k := 0) (v := .ref 57) dX12_digest_49 zc12 rfl (Nat.le_of_ble_eq_true rfl) (Nat.le_of_ble_eq_true rfl) u_806 rfl (rfl) ?_
  refine zi_iconst (v := 1) dX12_digest_52 (by decide) ?_
  refine zg_iaload dX12_digest_53 (rfl) (Nat.le_of_ble_eq_true rfl) (zvi (by decide)) ?_
  show zA G (d + 1) mX12_digest 54 [some (.ref 56), some (.long x1), none, some (.int x3), some (.int x4)] [.int (I 57 1), .int x4] (zh b I L) R
  refine zi_icmp_ge (tgt := 101) dX12_digest_54 (by decide) (fun c1 => ?_) (fun c1 => ?_)
  · have K := K.1 c1
    refine zi_iinc (v := x3 + 1) (ls' := [some (.ref 56), some (.long x1), none, some (.int (x3 + 1)), some (.int x4)]) dX12_digest_101 rfl (by decide) rfl rfl ?_
    refine zi_goto (tgt := 33) dX12_digest_104 (by decide) ?_
    refine zi_mask [true, true, true, true, false] rfl ?_
    exact K
  · have K := K.2 c1
    refine zi_ldc2 dX12_digest_57 u_1183 ?_
    refine zi_ldc2 dX12_digest_60 u_1183 ?_
    refine zi_lload_n dX12_digest_63 rfl rfl ?_
    refine zi_lmul dX12_digest_64 ?_
    refine zi_aload_n dX12_digest_65 rfl rfl ?_
    refine zg_getF (k := 0) (v := .ref 57) dX12_digest_66 zc12 rfl (Nat.le_of_ble_eq_true rfl) (Nat.le_of_ble_eq_true rfl) u_806 rfl (rfl) ?_
    refine zi_iconst (v := 0) dX12_digest_69 (by decide) ?_
    refine zi_iload_n dX12_digest_70 rfl rfl ?_
    refine zi_iload dX12_digest_71 rfl ?_
    refine zi_callS (N := mX12_cellAt) (av := [.int 0, .int x3, .int x4]) (st := [.ref 57, .long (31 * x1), .long 31]) (R1 := (some (.int (zca 0 x3 x4)), zh b I L)) dX12_digest_73 okX12_cellAt u_899 u_900 arX12_cellAt rfl (Nat.le_of_ble_eq_true rfl) (kX12_cellAt _ _ _) hR ?_
    show zA G (d + 1) mX12_digest 76 [some (.ref 56), some (.long x1), none, some (.int x3), some (.int x4)] [.int (zca 0 x3 x4), .ref 57, .long (31 * x1), .long 31] (zh b I L) R
    have o2 := K.1
    have K := K.2
    refine zg_iaload dX12_digest_76 (rfl) (Nat.le_of_ble_eq_true rfl) o2 ?_
    refine zi_i2l dX12_digest_77 ?_
    refine zi_ladd dX12_digest_78 ?_
    refine zi_lmul dX12_digest_79 ?_
    refine zi_aload_n dX12_digest_80 rfl rfl ?_
    refine zg_getF (k := 0) (v := .ref 57) dX12_digest_81 zc12 rfl (Nat.le_of_ble_eq_true rfl) (Nat.le_of_ble_eq_true rfl) u_806 rfl (rfl) ?_
    refine zi_iconst (v := 1) dX12_digest_84 (by decide) ?_
    refine zi_iload_n dX12_digest_85 rfl rfl ?_
    refine zi_iload dX12_digest_86 rfl ?_
    refine zi_callS (N := mX12_cellAt) (av := [.int 1, .int x3, .int x4]) (st := [.ref 57, .long (31 * ((31 * x1) + ((I 57 (zx (zca 0 x3 x4))).toInt64)))]) (R1 := (some (.int (zca 1 x3 x4)), zh b I L)) dX12_digest_88 okX12_cellAt u_899 u_900 arX12_cellAt rfl (Nat.le_of_ble_eq_true rfl) (kX12_cellAt _ _ _) hR ?_
    show zA G (d + 1) mX12_digest 91 [some (.ref 56), some (.long x1), none, some (.int x3), some (.int x4)] [.int (zca 1 x3 x4), .ref 57, .long (31 * ((31 * x1) + ((I 57 (zx (zca 0 x3 x4))).toInt64)))] (zh b I L) R
    have o3 := K.1
    have K := K.2
    refine zg_iaload dX12_digest_91 (rfl) (Nat.le_of_ble_eq_true rfl) o3 ?_
    refine zi_i2l dX12_digest_92 ?_
    refine zi_ladd dX12_digest_93 ?_
    refine zi_lstore_n (ls' := [some (.ref 56), some (.long ((31 * ((31 * x1) + ((I 57 (zx (zca 0 x3 x4))).toInt64))) + ((I 57 (zx (zca 1 x3 x4))).toInt64))), none, some (.int x3), some (.int x4)]) dX12_digest_94 rfl (by decide) rfl ?_
    refine zi_iinc (v := x4 + 1) (ls' := [some (.ref 56), some (.long ((31 * ((31 * x1) + ((I 57 (zx (zca 0 x3 x4))).toInt64))) + ((I 57 (zx (zca 1 x3 x4))).toInt64))), none, some (.int x3), some (.int (x4 + 1))]) dX12_digest_95 rfl (by decide) rfl rfl ?_
    refine zi_goto (tgt := 46) dX12_digest_98 (by decide) ?_
    exact K
set_option maxRecDepth 100000 in
theorem tX12_digest_109 {G : zG} {d b : Nat} {I : Nat → Nat → Int32} {L : Nat → Nat → Int64} {R : zR} {x1 : Int64} {x3 : Int32}
    (K : (((I 57 2) ≤ x3 → zA G (d + 1) mX12_digest 217 [some (.ref 56), some (.long x1), none, some (.int 0), none] [] (zh b I L) R) ∧ (¬ (I 57 2) ≤ x3 → (vp_in (101 + x3) 463 ∧ (vp_in (107 + x3) 463 ∧ (vp_in (113 + x3) 463 ∧ zA G (d + 1) mX12_digest 169 [some (.ref 56), some (.long ((31 * ((31 * ((31 * x1) + ((I 57 (zx (101 + x3))).toInt64))) + ((I 57 (zx (107 + x3))).toInt64))) + ((I 57 (zx (113 + x3))).toInt64))), none, some (.int x3), some (.int 0)] [] (zh b I L) R)))))) :
    zA G (d + 1) mX12_digest 109 [some (.ref 56), some (.long x1), none, some (.int x3), none] [] (zh b I L) R := by
  refine zi_iload_n dX12_digest_109 rfl rfl ?_
  refine zi_aload_n dX12_digest_110 rfl rfl ?_
  refine zg_getF (k := 0) (v := .ref 57) dX12_digest_111 zc12 rfl (Nat.le_of_ble_eq_true rfl) (Nat.le_of_ble_eq_true rfl) u_806 rfl (rfl) ?_
  refine zi_iconst (v := 2) dX12_digest_114 (by decide) ?_
  refine zg_iaload dX12_digest_115 (rfl) (Nat.le_of_ble_eq_true rfl) (zvi (by decide)) ?_
  show zA G (d + 1) mX12_digest 116 [some (.ref 56), some (.long x1), none, some (.int x3), none] [.int (I 57 2), .int x3] (zh b I L) R
  refine zi_icmp_ge (tgt := 215) dX12_digest_116 (by decide) (fun c1 => ?_) (fun c1 => ?_)
  · have K := K.1 c1
    refine zi_iconst (v := 0) dX12_digest_215 (by decide) ?_
    refine zi_istore_n (ls' := [some (.ref 56), some (.long x1), none, some (.int 0), none]) dX12_digest_216 rfl (by decide) rfl ?_
    exact K
  · have K := K.2 c1
    refine zi_ldc2 dX12_digest_119 u_1183 ?_
    refine zi_ldc2 dX12_digest_122 u_1183 ?_
    refine zi_ldc2 dX12_digest_125 u_1183 ?_
    refine zi_lload_n dX12_digest_128 rfl rfl ?_
    refine zi_lmul dX12_digest_129 ?_
    refine zi_aload_n dX12_digest_130 rfl rfl ?_
    refine zg_getF (k := 0) (v := .ref 57) dX12_digest_131 zc12 rfl (Nat.le_of_ble_eq_true rfl) (Nat.le_of_ble_eq_true rfl) u_806 rfl (rfl) ?_
    refine zi_bipush (v := 101) dX12_digest_134 (by decide) ?_
    refine zi_iload_n dX12_digest_136 rfl rfl ?_
    refine zi_iadd dX12_digest_137 ?_
    have o2 := K.1
    have K := K.2
    refine zg_iaload dX12_digest_138 (rfl) (Nat.le_of_ble_eq_true rfl) o2 ?_
    refine zi_i2l dX12_digest_139 ?_
    refine zi_ladd dX12_digest_140 ?_
    refine zi_lmul dX12_digest_141 ?_
    refine zi_aload_n dX12_digest_142 rfl rfl ?_
    refine zg_getF (k := 0) (v := .ref 57) dX12_digest_143 zc12 rfl (Nat.le_of_ble_eq_true rfl) (Nat.le_of_ble_eq_true rfl) u_806 rfl (rfl) ?_
    refine zi_bipush (v := 107) dX12_digest_146 (by decide) ?_
    refine zi_iload_n dX12_digest_148 rfl rfl ?_
    refine zi_iadd dX12_digest_149 ?_
    have o3 := K.1
    have K := K.2
    refine zg_iaload dX12_digest_150 (rfl) (Nat.le_of_ble_eq_true rfl) o3 ?_
    refine zi_i2l dX12_digest_151 ?_
    refine zi_ladd dX12_digest_152 ?_
    refine zi_lmul dX12_digest_153 ?_
    refine zi_aload_n dX12_digest_154 rfl rfl ?_
    refine zg_getF (k := 0) (v := .ref 57) dX12_digest_155 zc12 rfl (Nat.le_of_ble_eq_true rfl) (Nat.le_of_ble_eq_true rfl) u_806 rfl (rfl) ?_
    refine zi_bipush (v := 113) dX12_digest_158 (by decide) ?_
    refine zi_iload_n dX12_digest_160 rfl rfl ?_
    refine zi_iadd dX12_digest_161 ?_
    have o4 := K.1
    have K := K.2
    refine zg_iaload dX12_digest_162 (rfl) (Nat.le_of_ble_eq_true rfl) o4 ?_
    refine zi_i2l dX12_digest_163 ?_
    refine zi_ladd dX12_digest_164 ?_
    refine zi_lstore_n (ls' := [some (.ref 56), some (.long ((31 * ((31 * ((31 * x1) + ((I 57 (zx (101 + x3))).toInt64))) + ((I 57 (zx (107 + x3))).toInt64))) + ((I 57 (zx (113 + x3))).toInt64))), none, some (.int x3), none]) dX12_digest_165 rfl (by decide) rfl ?_
    refine zi_iconst (v := 0) dX12_digest_166 (by decide) ?_
    refine zi_istore (ls' := [some (.ref 56), some (.long ((31 * ((31 * ((31 * x1) + ((I 57 (zx (101 + x3))).toInt64))) + ((I 57 (zx (107 + x3))).toInt64))) + ((I 57 (zx (113 + x3))).toInt64))), none, some (.int x3), some (.int 0)]) dX12_digest_167 (by decide) rfl ?_
    exact K
set_option maxRecDepth 100000 in
theorem tX12_digest_169 {G : zG} {d b : Nat} {I : Nat → Nat → Int32} {L : Nat → Nat → Int64} {R : zR} {x1 : Int64} {x3 : Int32} {x4 : Int32}
    (K : (((I 57 0) ≤ x4 → zA G (d + 1) mX12_digest 109 [some (.ref 56), some (.long x1), none, some (.int (x3 + 1)), none] [] (zh b I L) R) ∧ (¬ (I 57 0) ≤ x4 → (vp_in ((119 + (8 * x3)) + x4) 463 ∧ zA G (d + 1) mX12_digest 169 [some (.ref 56), some (.long ((31 * x1) + ((I 57 (zx ((119 + (8 * x3)) + x4))).toInt64))), none, some (.int x3), some (.int (x4 + 1))] [] (zh b I L) R)))) :
    zA G (d + 1) mX12_digest 169 [some (.ref 56), some (.long x1), none, some (.int x3), some (.int x4)] [] (zh b I L) R := by
  refine zi_iload dX12_digest_169 rfl ?_
  refine zi_aload_n dX12_digest_171 rfl rfl ?_
  refine zg_getF (k := 0) (v := .ref 57) dX12_digest_172 zc12 rfl (Nat.le_of_ble_eq_true rfl) (Nat.le_of_ble_eq_true rfl) u_806 rfl (rfl) ?_
  refine zi_iconst (v := 0) dX12_digest_175 (by decide) ?_
  refine zg_iaload dX12_digest_176 (rfl) (Nat.le_of_ble_eq_true rfl) (zvi (by decide)) ?_
  show zA G (d + 1) mX12_digest 177 [some (.ref 56), some (.long x1), none, some (.int x3), some (.int x4)] [.int (I 57 0), .int x4] (zh b I L) R
  refine zi_icmp_ge (tgt := 209) dX12_digest_177 (by decide) (fun c1 => ?_) (fun c1 => ?_)
  · have K := K.1 c1
    refine zi_iinc (v := x3 + 1) (ls' := [some (.ref 56), some (.long x1), none, some (.int (x3 + 1)), some (.int x4)]) dX12_digest_209 rfl (by decide) rfl rfl ?_
    refine zi_goto (tgt := 109) dX12_digest_212 (by decide) ?_
    refine zi_mask [true, true, true, true, false] rfl ?_
    exact K
  · have K := K.2 c1
    refine zi_ldc2 dX12_digest_180 u_1183 ?_
    refine zi_lload_n dX12_digest_183 rfl rfl ?_
    refine zi_lmul dX12_digest_184 ?_
    refine zi_aload_n dX12_digest_185 rfl rfl ?_
    refine zg_getF (k := 0) (v := .ref 57) dX12_digest_186 zc12 rfl (Nat.le_of_ble_eq_true rfl) (Nat.le_of_ble_eq_true rfl) u_806 rfl (rfl) ?_
    refine zi_bipush (v := 119) dX12_digest_189 (by decide) ?_
    refine zi_bipush (v := 8) dX12_digest_191 (by decide) ?_
    refine zi_iload_n dX12_digest_193 rfl rfl ?_
    refine zi_imul dX12_digest_194 ?_
    refine zi_iadd dX12_digest_195 ?_
    refine zi_iload dX12_digest_196 rfl ?_
    refine zi_iadd dX12_digest_198 ?_
    have o2 := K.1
    have K := K.2
    refine zg_iaload dX12_digest_199 (rfl) (Nat.le_of_ble_eq_true rfl) o2 ?_
    refine zi_i2l dX12_digest_200 ?_
    refine zi_ladd dX12_digest_201 ?_
    refine zi_lstore_n (ls' := [some (.ref 56), some (.long ((31 * x1) + ((I 57 (zx ((119 + (8 * x3)) + x4))).toInt64))), none, some (.int x3), some (.int x4)]) dX12_digest_202 rfl (by decide) rfl ?_
    refine zi_iinc (v := x4 + 1) (ls' := [some (.ref 56), some (.long ((31 * x1) + ((I 57 (zx ((119 + (8 * x3)) + x4))).toInt64))), none, some (.int x3), some (.int (x4 + 1))]) dX12_digest_203 rfl (by decide) rfl rfl ?_
    refine zi_goto (tgt := 169) dX12_digest_206 (by decide) ?_
    exact K
set_option maxRecDepth 100000 in
theorem tX12_digest_217 {G : zG} {d b : Nat} {I : Nat → Nat → Int32} {L : Nat → Nat → Int64} {R : zR} {x1 : Int64} {x3 : Int32}
    (K : (((I 57 3) ≤ x3 → R = (some (.long ((31 * ((31 * x1) + (L 56 6))) + (L 56 7))), zh b I L)) ∧ (¬ (I 57 3) ≤ x3 → (vp_in (167 + x3) 463 ∧ zA G (d + 1) mX12_digest 217 [some (.ref 56), some (.long ((31 * x1) + ((I 57 (zx (167 + x3))).toInt64))), none, some (.int (x3 + 1)), none] [] (zh b I L) R)))) :
    zA G (d + 1) mX12_digest 217 [some (.ref 56), some (.long x1), none, some (.int x3), none] [] (zh b I L) R := by
  refine zi_iload_n dX12_digest_217 rfl rfl ?_
  refine zi_aload_n dX12_digest_218 rfl rfl ?_
  refine zg_getF (k := 0) (v := .ref 57) dX12_digest_219 zc12 rfl (Nat.le_of_ble_eq_true rfl) (Nat.le_of_ble_eq_true rfl) u_806 rfl (rfl) ?_
  refine zi_iconst (v := 3) dX12_digest_222 (by decide) ?_
  refine zg_iaload dX12_digest_223 (rfl) (Nat.le_of_ble_eq_true rfl) (zvi (by decide)) ?_
  show zA G (d + 1) mX12_digest 224 [some (.ref 56), some (.long x1), none, some (.int x3), none] [.int (I 57 3), .int x3] (zh b I L) R
  refine zi_icmp_ge (tgt := 251) dX12_digest_224 (by decide) (fun c1 => ?_) (fun c1 => ?_)
  · have K := K.1 c1
    refine zi_ldc2 dX12_digest_251 u_1183 ?_
    refine zi_ldc2 dX12_digest_254 u_1183 ?_
    refine zi_lload_n dX12_digest_257 rfl rfl ?_
    refine zi_lmul dX12_digest_258 ?_
    refine zi_aload_n dX12_digest_259 rfl rfl ?_
    refine zg_getL (k := 6) dX12_digest_260 zc12 rfl (Nat.le_of_ble_eq_true rfl) (Nat.le_of_ble_eq_true rfl) u_812 rfl ?_
    refine zi_ladd dX12_digest_263 ?_
    refine zi_lmul dX12_digest_264 ?_
    refine zi_aload_n dX12_digest_265 rfl rfl ?_
    refine zg_getL (k := 7) dX12_digest_266 zc12 rfl (Nat.le_of_ble_eq_true rfl) (Nat.le_of_ble_eq_true rfl) u_813 rfl ?_
    refine zi_ladd dX12_digest_269 ?_
    subst K
    exact zi_lreturn dX12_digest_270 rfl
  · have K := K.2 c1
    refine zi_ldc2 dX12_digest_227 u_1183 ?_
    refine zi_lload_n dX12_digest_230 rfl rfl ?_
    refine zi_lmul dX12_digest_231 ?_
    refine zi_aload_n dX12_digest_232 rfl rfl ?_
    refine zg_getF (k := 0) (v := .ref 57) dX12_digest_233 zc12 rfl (Nat.le_of_ble_eq_true rfl) (Nat.le_of_ble_eq_true rfl) u_806 rfl (rfl) ?_
    refine zi_sipush (v := 167) dX12_digest_236 (by decide) ?_
    refine zi_iload_n dX12_digest_239 rfl rfl ?_
    refine zi_iadd dX12_digest_240 ?_
    have o2 := K.1
    have K := K.2
    refine zg_iaload dX12_digest_241 (rfl) (Nat.le_of_ble_eq_true rfl) o2 ?_
    refine zi_i2l dX12_digest_242 ?_
    refine zi_ladd dX12_digest_243 ?_
    refine zi_lstore_n (ls' := [some (.ref 56), some (.long ((31 * x1) + ((I 57 (zx (167 + x3))).toInt64))), none, some (.int x3), none]) dX12_digest_244 rfl (by decide) rfl ?_
    refine zi_iinc (v := x3 + 1) (ls' := [some (.ref 56), some (.long ((31 * x1) + ((I 57 (zx (167 + x3))).toInt64))), none, some (.int (x3 + 1)), none]) dX12_digest_245 rfl (by decide) rfl rfl ?_
    refine zi_goto (tgt := 217) dX12_digest_248 (by decide) ?_
    exact K
