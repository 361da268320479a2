/-! rows by program: X11_within, X11_cell, X11_onLine, X11_onWay, X4_isLaidOut, X4_laneBeyond, X11_refuseBad, X11_refuseNo, X11_refuseFull, X11_imageNumbered, X12_in, X12_cellAt, X12_isLetter, X12_isFigure, X12_capped, X12_harmOf, X12_steps, X12_refuse -/
set_option maxRecDepth 100000 in
theorem tX11_within_0 {G : zG} {d b : Nat} {I : Nat → Nat → Int32} {L : Nat → Nat → Int64} {R : zR} {x0 : Int32} {x1 : Int32} {x2 : Int32}
    (K : ((x0 < x1 → R = (some (.int 0), zh b I L)) ∧ (¬ x0 < x1 → ((x2 < x0 → R = (some (.int 0), zh b I L)) ∧ (¬ x2 < x0 → R = (some (.int 1), zh b I L)))))) :
    zA G d mX11_within 0 [some (.int x0), some (.int x1), some (.int x2)] [] (zh b I L) R := by
  refine zi_iload_n dX11_within_0 rfl rfl ?_
  refine zi_iload_n dX11_within_1 rfl rfl ?_
  refine zi_icmp_lt (tgt := 14) dX11_within_2 (by decide) (fun c1 => ?_) (fun c1 => ?_)
  · have K := K.1 c1
    refine zi_iconst (v := 0) dX11_within_14 (by decide) ?_
    subst K
    exact zi_ireturn dX11_within_15 rfl (by decide)
  · have K := K.2 c1
    refine zi_iload_n dX11_within_5 rfl rfl ?_
    refine zi_iload_n dX11_within_6 rfl rfl ?_
    refine zi_icmp_gt (tgt := 14) dX11_within_7 (by decide) (fun c2 => ?_) (fun c2 => ?_)
    · have K := K.1 c2
      refine zi_iconst (v := 0) dX11_within_14 (by decide) ?_
      subst K
      exact zi_ireturn dX11_within_15 rfl (by decide)
    · have K := K.2 c2
      refine zi_iconst (v := 1) dX11_within_10 (by decide) ?_
      refine zi_goto (tgt := 15) dX11_within_11 (by decide) ?_
      subst K
      exact zi_ireturn dX11_within_15 rfl (by decide)
set_option maxRecDepth 100000 in
theorem tX11_cell_0 {G : zG} {d b : Nat} {I : Nat → Nat → Int32} {L : Nat → Nat → Int64} {R : zR} {x0 : Int32} {x1 : Int32}
    (K : R = (some (.int ((x0 * 6) + x1)), zh b I L)) :
    zA G d mX11_cell 0 [some (.int x0), some (.int x1)] [] (zh b I L) R := by
  refine zi_iload_n dX11_cell_0 rfl rfl ?_
  refine zi_bipush (v := 6) dX11_cell_1 (by decide) ?_
  refine zi_imul dX11_cell_3 ?_
  refine zi_iload_n dX11_cell_4 rfl rfl ?_
  refine zi_iadd dX11_cell_5 ?_
  subst K
  exact zi_ireturn dX11_cell_6 rfl rfl
set_option maxRecDepth 100000 in
theorem tX11_onLine_0 {G : zG} {d b : Nat} {I : Nat → Nat → Int32} {L : Nat → Nat → Int64} {R : zR} {x0 : Int32} {x1 : Int32}
    (K : R = (some (.int ((x0 * 8) + x1)), zh b I L)) :
    zA G d mX11_onLine 0 [some (.int x0), some (.int x1)] [] (zh b I L) R := by
  refine zi_iload_n dX11_onLine_0 rfl rfl ?_
  refine zi_bipush (v := 8) dX11_onLine_1 (by decide) ?_
  refine zi_imul dX11_onLine_3 ?_
  refine zi_iload_n dX11_onLine_4 rfl rfl ?_
  refine zi_iadd dX11_onLine_5 ?_
  subst K
  exact zi_ireturn dX11_onLine_6 rfl rfl
set_option maxRecDepth 100000 in
theorem tX11_onWay_0 {G : zG} {d b : Nat} {I : Nat → Nat → Int32} {L : Nat → Nat → Int64} {R : zR} {x0 : Int32} {x1 : Int32}
    (K : R = (some (.int ((x0 * 9) + x1)), zh b I L)) :
    zA G d mX11_onWay 0 [some (.int x0), some (.int x1)] [] (zh b I L) R := by
  refine zi_iload_n dX11_onWay_0 rfl rfl ?_
  refine zi_bipush (v := 9) dX11_onWay_1 (by decide) ?_
  refine zi_imul dX11_onWay_3 ?_
  refine zi_iload_n dX11_onWay_4 rfl rfl ?_
  refine zi_iadd dX11_onWay_5 ?_
  subst K
  exact zi_ireturn dX11_onWay_6 rfl rfl
set_option maxRecDepth 100000 in
theorem tX4_isLaidOut_0 {G : zG} {d b : Nat} {q : Nat} {I : Nat → Nat → Int32} {L : Nat → Nat → Int64} {R : zR}  (hq : zhl q)
    (K : (((I q 0) ≤ 0 → R = (some (.int 0), zh b I L)) ∧ (¬ (I q 0) ≤ 0 → R = (some (.int 1), zh b I L)))) :
    zA G d mX4_isLaidOut 0 [some (.ref q)] [] (zh b I L) R := by
  refine zi_aload_n dX4_isLaidOut_0 rfl rfl ?_
  refine zg_getI (k := 0) dX4_isLaidOut_1 zc4 hq.sh hq.l0 (Nat.le_of_ble_eq_true rfl) u_36 rfl ?_
  refine zi_if_le (tgt := 11) dX4_isLaidOut_4 (by decide) (fun c1 => ?_) (fun c1 => ?_)
  · have K := K.1 c1
    refine zi_iconst (v := 0) dX4_isLaidOut_11 (by decide) ?_
    subst K
    exact zi_ireturn dX4_isLaidOut_12 rfl (by decide)
  · have K := K.2 c1
    refine zi_iconst (v := 1) dX4_isLaidOut_7 (by decide) ?_
    refine zi_goto (tgt := 12) dX4_isLaidOut_8 (by decide) ?_
    subst K
    exact zi_ireturn dX4_isLaidOut_12 rfl (by decide)
set_option maxRecDepth 100000 in
theorem tX4_laneBeyond_0 {G : zG} {d b : Nat} {q : Nat} {I : Nat → Nat → Int32} {L : Nat → Nat → Int64} {R : zR} {x1 : Int32} {x2 : Int32} (hq : zhl q)
    (K : ((¬ x2 = 1 → ((¬ x2 = 2 → R = (some (.int x1), zh b I L)) ∧ (x2 = 2 → ((((I q 1) - 1) ≤ x1 → R = (some (.int x1), zh b I L)) ∧ (¬ ((I q 1) - 1) ≤ x1 → R = (some (.int (x1 + 1)), zh b I L)))))) ∧ (x2 = 1 → ((x1 ≤ 0 → ((¬ x2 = 2 → R = (some (.int x1), zh b I L)) ∧ (x2 = 2 → ((((I q 1) - 1) ≤ x1 → R = (some (.int x1), zh b I L)) ∧ (¬ ((I q 1) - 1) ≤ x1 → R = (some (.int (x1 + 1)), zh b I L)))))) ∧ (¬ x1 ≤ 0 → R = (some (.int (x1 - 1)), zh b I L)))))) :
    zA G d mX4_laneBeyond 0 [some (.ref q), some (.int x1), some (.int x2)] [] (zh b I L) R := by
  refine zi_iload_n dX4_laneBeyond_0 rfl rfl ?_
  refine zi_iconst (v := 1) dX4_laneBeyond_1 (by decide) ?_
  refine zi_icmp_ne (tgt := 13) dX4_laneBeyond_2 (by decide) (fun c1 => ?_) (fun c1 => ?_)
  · have K := K.1 c1
    refine zi_iload_n dX4_laneBeyond_13 rfl rfl ?_
    refine zi_iconst (v := 2) dX4_laneBeyond_14 (by decide) ?_
    refine zi_icmp_ne (tgt := 32) dX4_laneBeyond_15 (by decide) (fun c2 => ?_) (fun c2 => ?_)
    · have K := K.1 c2
      refine zi_iload_n dX4_laneBeyond_32 rfl rfl ?_
      subst K
      exact zi_ireturn dX4_laneBeyond_33 rfl rfl
    · have K := K.2 c2
      refine zi_iload_n dX4_laneBeyond_18 rfl rfl ?_
      refine zi_aload_n dX4_laneBeyond_19 rfl rfl ?_
      refine zg_getI (k := 1) dX4_laneBeyond_20 zc4 hq.sh hq.l0 (Nat.le_of_ble_eq_true rfl) u_42 rfl ?_
      refine zi_iconst (v := 1) dX4_laneBeyond_23 (by decide) ?_
      refine zi_isub dX4_laneBeyond_24 ?_
      refine zi_icmp_ge (tgt := 32) dX4_laneBeyond_25 (by decide) (fun c3 => ?_) (fun c3 => ?_)
      · have K := K.1 c3
        refine zi_iload_n dX4_laneBeyond_32 rfl rfl ?_
        subst K
        exact zi_ireturn dX4_laneBeyond_33 rfl rfl
      · have K := K.2 c3
        refine zi_iload_n dX4_laneBeyond_28 rfl rfl ?_
        refine zi_iconst (v := 1) dX4_laneBeyond_29 (by decide) ?_
        refine zi_iadd dX4_laneBeyond_30 ?_
        subst K
        exact zi_ireturn dX4_laneBeyond_31 rfl rfl
  · have K := K.2 c1
    refine zi_iload_n dX4_laneBeyond_5 rfl rfl ?_
    refine zi_if_le (tgt := 13) dX4_laneBeyond_6 (by decide) (fun c4 => ?_) (fun c4 => ?_)
    · have K := K.1 c4
      refine zi_iload_n dX4_laneBeyond_13 rfl rfl ?_
      refine zi_iconst (v := 2) dX4_laneBeyond_14 (by decide) ?_
      refine zi_icmp_ne (tgt := 32) dX4_laneBeyond_15 (by decide) (fun c5 => ?_) (fun c5 => ?_)
      · have K := K.1 c5
        refine zi_iload_n dX4_laneBeyond_32 rfl rfl ?_
        subst K
        exact zi_ireturn dX4_laneBeyond_33 rfl rfl
      · have K := K.2 c5
        refine zi_iload_n dX4_laneBeyond_18 rfl rfl ?_
        refine zi_aload_n dX4_laneBeyond_19 rfl rfl ?_
        refine zg_getI (k := 1) dX4_laneBeyond_20 zc4 hq.sh hq.l0 (Nat.le_of_ble_eq_true rfl) u_42 rfl ?_
        refine zi_iconst (v := 1) dX4_laneBeyond_23 (by decide) ?_
        refine zi_isub dX4_laneBeyond_24 ?_
        refine zi_icmp_ge (tgt := 32) dX4_laneBeyond_25 (by decide) (fun c6 => ?_) (fun c6 => ?_)
        · have K := K.1 c6
          refine zi_iload_n dX4_laneBeyond_32 rfl rfl ?_
          subst K
          exact zi_ireturn dX4_laneBeyond_33 rfl rfl
        · have K := K.2 c6
          refine zi_iload_n dX4_laneBeyond_28 rfl rfl ?_
          refine zi_iconst (v := 1) dX4_laneBeyond_29 (by decide) ?_
          refine zi_iadd dX4_laneBeyond_30 ?_
          subst K
          exact zi_ireturn dX4_laneBeyond_31 rfl rfl
    · have K := K.2 c4
      refine zi_iload_n dX4_laneBeyond_9 rfl rfl ?_
      refine zi_iconst (v := 1) dX4_laneBeyond_10 (by decide) ?_
      refine zi_isub dX4_laneBeyond_11 ?_
      subst K
      exact zi_ireturn dX4_laneBeyond_12 rfl rfl
set_option maxRecDepth 100000 in
theorem tX11_refuseBad_0 {G : zG} {d b : Nat} {I : Nat → Nat → Int32} {L : Nat → Nat → Int64} {R : zR} {x1 : Int32}
    (K : R = (some (.int x1), zh b (zup I 0 12 ((I 0 12) + 1)) L)) :
    zA G d mX11_refuseBad 0 [some (.ref 0), some (.int x1)] [] (zh b I L) R := by
  refine zi_aload_n dX11_refuseBad_0 rfl rfl ?_
  refine zi_dup dX11_refuseBad_1 rfl ?_
  refine zg_getI (k := 12) dX11_refuseBad_2 zc11 rfl (Nat.le_of_ble_eq_true rfl) (Nat.le_of_ble_eq_true rfl) u_256 rfl ?_
  refine zi_iconst (v := 1) dX11_refuseBad_5 (by decide) ?_
  refine zi_iadd dX11_refuseBad_6 ?_
  refine zg_putI (k := 12) dX11_refuseBad_7 zc11 rfl (Nat.le_of_ble_eq_true rfl) (Nat.le_of_ble_eq_true rfl) u_256 rfl rfl ?_
  refine zi_iload_n dX11_refuseBad_10 rfl rfl ?_
  subst K
  exact zi_ireturn dX11_refuseBad_11 rfl rfl
set_option maxRecDepth 100000 in
theorem tX11_refuseNo_0 {G : zG} {d b : Nat} {I : Nat → Nat → Int32} {L : Nat → Nat → Int64} {R : zR} {x1 : Int32}
    (K : R = (some (.int x1), zh b (zup I 0 13 ((I 0 13) + 1)) L)) :
    zA G d mX11_refuseNo 0 [some (.ref 0), some (.int x1)] [] (zh b I L) R := by
  refine zi_aload_n dX11_refuseNo_0 rfl rfl ?_
  refine zi_dup dX11_refuseNo_1 rfl ?_
  refine zg_getI (k := 13) dX11_refuseNo_2 zc11 rfl (Nat.le_of_ble_eq_true rfl) (Nat.le_of_ble_eq_true rfl) u_257 rfl ?_
  refine zi_iconst (v := 1) dX11_refuseNo_5 (by decide) ?_
  refine zi_iadd dX11_refuseNo_6 ?_
  refine zg_putI (k := 13) dX11_refuseNo_7 zc11 rfl (Nat.le_of_ble_eq_true rfl) (Nat.le_of_ble_eq_true rfl) u_257 rfl rfl ?_
  refine zi_iload_n dX11_refuseNo_10 rfl rfl ?_
  subst K
  exact zi_ireturn dX11_refuseNo_11 rfl rfl
set_option maxRecDepth 100000 in
theorem tX11_refuseFull_0 {G : zG} {d b : Nat} {I : Nat → Nat → Int32} {L : Nat → Nat → Int64} {R : zR} 
    (K : R = (some (.int (-4)), zh b (zup I 0 14 ((I 0 14) + 1)) L)) :
    zA G d mX11_refuseFull 0 [some (.ref 0)] [] (zh b I L) R := by
  refine zi_aload_n dX11_refuseFull_0 rfl rfl ?_
  refine zi_dup dX11_refuseFull_1 rfl ?_
  refine zg_getI (k := 14) dX11_refuseFull_2 zc11 rfl (Nat.le_of_ble_eq_true rfl) (Nat.le_of_ble_eq_true rfl) u_258 rfl ?_
  refine zi_iconst (v := 1) dX11_refuseFull_5 (by decide) ?_
  refine zi_iadd dX11_refuseFull_6 ?_
  refine zg_putI (k := 14) dX11_refuseFull_7 zc11 rfl (Nat.le_of_ble_eq_true rfl) (Nat.le_of_ble_eq_true rfl) u_258 rfl rfl ?_
  refine zi_bipush (v := (-4)) dX11_refuseFull_10 (by decide) ?_
  subst K
  exact zi_ireturn dX11_refuseFull_12 rfl rfl
set_option maxRecDepth 100000 in
theorem tX11_imageNumbered_0 {G : zG} {d b : Nat} {I : Nat → Nat → Int32} {L : Nat → Nat → Int64} {R : zR} {x1 : Int32}
    (K : ((¬ x1 = 0 → R = (some (.ref 28), zh b I L)) ∧ (x1 = 0 → R = (some (.ref 19), zh b I L)))) :
    zA G d mX11_imageNumbered 0 [some (.ref 0), some (.int x1)] [] (zh b I L) R := by
  refine zi_iload_n dX11_imageNumbered_0 rfl rfl ?_
  refine zi_if_ne (tgt := 11) dX11_imageNumbered_1 (by decide) (fun c1 => ?_) (fun c1 => ?_)
  · have K := K.1 c1
    refine zi_aload_n dX11_imageNumbered_11 rfl rfl ?_
    refine zg_getF (k := 3) (v := .ref 28) dX11_imageNumbered_12 zc11 rfl (Nat.le_of_ble_eq_true rfl) (Nat.le_of_ble_eq_true rfl) u_247 rfl (rfl) ?_
    subst K
    exact zi_areturn dX11_imageNumbered_15 rfl
  · have K := K.2 c1
    refine zi_aload_n dX11_imageNumbered_4 rfl rfl ?_
    refine zg_getF (k := 2) (v := .ref 19) dX11_imageNumbered_5 zc11 rfl (Nat.le_of_ble_eq_true rfl) (Nat.le_of_ble_eq_true rfl) u_246 rfl (rfl) ?_
    refine zi_goto (tgt := 15) dX11_imageNumbered_8 (by decide) ?_
    subst K
    exact zi_areturn dX11_imageNumbered_15 rfl
set_option maxRecDepth 100000 in
theorem tX12_in_0 {G : zG} {d b : Nat} {I : Nat → Nat → Int32} {L : Nat → Nat → Int64} {R : zR} {x0 : Int64} {x2 : Int64} {x4 : Int64}
    (K : (((lg_cmp x0 x2) < 0 → R = (some (.int 0), zh b I L)) ∧ (¬ (lg_cmp x0 x2) < 0 → ((0 < (lg_cmp x0 x4) → R = (some (.int 0), zh b I L)) ∧ (¬ 0 < (lg_cmp x0 x4) → R = (some (.int 1), zh b I L)))))) :
    zA G d mX12_in 0 [some (.long x0), none, some (.long x2), none, some (.long x4), none] [] (zh b I L) R := by
  refine zi_lload_n dX12_in_0 rfl rfl ?_
  refine zi_lload_n dX12_in_1 rfl rfl ?_
  refine zi_lcmp dX12_in_2 ?_
  refine zi_if_lt (tgt := 17) dX12_in_3 (by decide) (fun c1 => ?_) (fun c1 => ?_)
  · have K := K.1 c1
    refine zi_iconst (v := 0) dX12_in_17 (by decide) ?_
    subst K
    exact zi_ireturn dX12_in_18 rfl (by decide)
  · have K := K.2 c1
    refine zi_lload_n dX12_in_6 rfl rfl ?_
    refine zi_lload dX12_in_7 rfl ?_
    refine zi_lcmp dX12_in_9 ?_
    refine zi_if_gt (tgt := 17) dX12_in_10 (by decide) (fun c2 => ?_) (fun c2 => ?_)
    · have K := K.1 c2
      refine zi_iconst (v := 0) dX12_in_17 (by decide) ?_
      subst K
      exact zi_ireturn dX12_in_18 rfl (by decide)
    · have K := K.2 c2
      refine zi_iconst (v := 1) dX12_in_13 (by decide) ?_
      refine zi_goto (tgt := 18) dX12_in_14 (by decide) ?_
      subst K
      exact zi_ireturn dX12_in_18 rfl (by decide)
set_option maxRecDepth 100000 in
theorem tX12_cellAt_0 {G : zG} {d b : Nat} {I : Nat → Nat → Int32} {L : Nat → Nat → Int64} {R : zR} {x0 : Int32} {x1 : Int32} {x2 : Int32}
    (K : ((¬ x0 = 0 → R = (some (.int ((53 + (6 * x1)) + x2)), zh b I L)) ∧ (x0 = 0 → R = (some (.int ((5 + (6 * x1)) + x2)), zh b I L)))) :
    zA G d mX12_cellAt 0 [some (.int x0), some (.int x1), some (.int x2)] [] (zh b I L) R := by
  refine zi_iload_n dX12_cellAt_0 rfl rfl ?_
  refine zi_if_ne (tgt := 8) dX12_cellAt_1 (by decide) (fun c1 => ?_) (fun c1 => ?_)
  · have K := K.1 c1
    refine zi_bipush (v := 53) dX12_cellAt_8 (by decide) ?_
    refine zi_bipush (v := 6) dX12_cellAt_10 (by decide) ?_
    refine zi_iload_n dX12_cellAt_12 rfl rfl ?_
    refine zi_imul dX12_cellAt_13 ?_
    refine zi_iadd dX12_cellAt_14 ?_
    refine zi_iload_n dX12_cellAt_15 rfl rfl ?_
    refine zi_iadd dX12_cellAt_16 ?_
    subst K
    exact zi_ireturn dX12_cellAt_17 rfl rfl
  · have K := K.2 c1
    refine zi_iconst (v := 5) dX12_cellAt_4 (by decide) ?_
    refine zi_goto (tgt := 10) dX12_cellAt_5 (by decide) ?_
    refine zi_bipush (v := 6) dX12_cellAt_10 (by decide) ?_
    refine zi_iload_n dX12_cellAt_12 rfl rfl ?_
    refine zi_imul dX12_cellAt_13 ?_
    refine zi_iadd dX12_cellAt_14 ?_
    refine zi_iload_n dX12_cellAt_15 rfl rfl ?_
    refine zi_iadd dX12_cellAt_16 ?_
    subst K
    exact zi_ireturn dX12_cellAt_17 rfl rfl
set_option maxRecDepth 100000 in
theorem tX12_isLetter_0 {G : zG} {d b : Nat} {I : Nat → Nat → Int32} {L : Nat → Nat → Int64} {R : zR} {x0 : Int32}
    (K : ((x0 ≤ 96 → R = (some (.int 0), zh b I L)) ∧ (¬ x0 ≤ 96 → ((123 ≤ x0 → R = (some (.int 0), zh b I L)) ∧ (¬ 123 ≤ x0 → R = (some (.int 1), zh b I L)))))) :
    zA G d mX12_isLetter 0 [some (.int x0)] [] (zh b I L) R := by
  refine zi_iload_n dX12_isLetter_0 rfl rfl ?_
  refine zi_bipush (v := 96) dX12_isLetter_1 (by decide) ?_
  refine zi_icmp_le (tgt := 16) dX12_isLetter_3 (by decide) (fun c1 => ?_) (fun c1 => ?_)
  · have K := K.1 c1
    refine zi_iconst (v := 0) dX12_isLetter_16 (by decide) ?_
    subst K
    exact zi_ireturn dX12_isLetter_17 rfl (by decide)
  · have K := K.2 c1
    refine zi_iload_n dX12_isLetter_6 rfl rfl ?_
    refine zi_bipush (v := 123) dX12_isLetter_7 (by decide) ?_
    refine zi_icmp_ge (tgt := 16) dX12_isLetter_9 (by decide) (fun c2 => ?_) (fun c2 => ?_)
    · have K := K.1 c2
      refine zi_iconst (v := 0) dX12_isLetter_16 (by decide) ?_
      subst K
      exact zi_ireturn dX12_isLetter_17 rfl (by decide)
    · have K := K.2 c2
      refine zi_iconst (v := 1) dX12_isLetter_12 (by decide) ?_
      refine zi_goto (tgt := 17) dX12_isLetter_13 (by decide) ?_
      subst K
      exact zi_ireturn dX12_isLetter_17 rfl (by decide)
set_option maxRecDepth 100000 in
theorem tX12_isFigure_0 {G : zG} {d b : Nat} {I : Nat → Nat → Int32} {L : Nat → Nat → Int64} {R : zR} {x0 : Int32}
    (K : ((x0 ≤ 47 → R = (some (.int 0), zh b I L)) ∧ (¬ x0 ≤ 47 → ((58 ≤ x0 → R = (some (.int 0), zh b I L)) ∧ (¬ 58 ≤ x0 → R = (some (.int 1), zh b I L)))))) :
    zA G d mX12_isFigure 0 [some (.int x0)] [] (zh b I L) R := by
  refine zi_iload_n dX12_isFigure_0 rfl rfl ?_
  refine zi_bipush (v := 47) dX12_isFigure_1 (by decide) ?_
  refine zi_icmp_le (tgt := 16) dX12_isFigure_3 (by decide) (fun c1 => ?_) (fun c1 => ?_)
  · have K := K.1 c1
    refine zi_iconst (v := 0) dX12_isFigure_16 (by decide) ?_
    subst K
    exact zi_ireturn dX12_isFigure_17 rfl (by decide)
  · have K := K.2 c1
    refine zi_iload_n dX12_isFigure_6 rfl rfl ?_
    refine zi_bipush (v := 58) dX12_isFigure_7 (by decide) ?_
    refine zi_icmp_ge (tgt := 16) dX12_isFigure_9 (by decide) (fun c2 => ?_) (fun c2 => ?_)
    · have K := K.1 c2
      refine zi_iconst (v := 0) dX12_isFigure_16 (by decide) ?_
      subst K
      exact zi_ireturn dX12_isFigure_17 rfl (by decide)
    · have K := K.2 c2
      refine zi_iconst (v := 1) dX12_isFigure_12 (by decide) ?_
      refine zi_goto (tgt := 17) dX12_isFigure_13 (by decide) ?_
      subst K
      exact zi_ireturn dX12_isFigure_17 rfl (by decide)
set_option maxRecDepth 100000 in
theorem tX12_capped_0 {G : zG} {d b : Nat} {I : Nat → Nat → Int32} {L : Nat → Nat → Int64} {R : zR} {x0 : Int32}
    (K : ((20 ≤ x0 → R = (some (.int 20), zh b I L)) ∧ (¬ 20 ≤ x0 → R = (some (.int x0), zh b I L)))) :
    zA G d mX12_capped 0 [some (.int x0)] [] (zh b I L) R := by
  refine zi_iload_n dX12_capped_0 rfl rfl ?_
  refine zi_bipush (v := 20) dX12_capped_1 (by decide) ?_
  refine zi_icmp_ge (tgt := 10) dX12_capped_3 (by decide) (fun c1 => ?_) (fun c1 => ?_)
  · have K := K.1 c1
    refine zi_bipush (v := 20) dX12_capped_10 (by decide) ?_
    subst K
    exact zi_ireturn dX12_capped_12 rfl rfl
  · have K := K.2 c1
    refine zi_iload_n dX12_capped_6 rfl rfl ?_
    refine zi_goto (tgt := 12) dX12_capped_7 (by decide) ?_
    subst K
    exact zi_ireturn dX12_capped_12 rfl rfl
set_option maxRecDepth 100000 in
theorem tX12_harmOf_0 {G : zG} {d b : Nat} {I : Nat → Nat → Int32} {L : Nat → Nat → Int64} {R : zR} {x0 : Int32} {x1 : Int32} {x2 : Int32} {x3 : Int32}
    (K : ((¬ x0 = 2 → ((¬ x3 = 1 → ((¬ x3 = 3 → R = (some (.int ((0 + 0) + 0)), zh b I L)) ∧ (x3 = 3 → ((x1 < 6 → R = (some (.int ((0 + 0) + 0)), zh b I L)) ∧ (¬ x1 < 6 → ((x0 = 2 → R = (some (.int ((0 + 0) + 0)), zh b I L)) ∧ (¬ x0 = 2 → R = (some (.int ((0 + 0) + 3)), zh b I L)))))))) ∧ (x3 = 1 → ((x2 < 10 → ((¬ x3 = 3 → R = (some (.int ((0 + 0) + 0)), zh b I L)) ∧ (x3 = 3 → ((x1 < 6 → R = (some (.int ((0 + 0) + 0)), zh b I L)) ∧ (¬ x1 < 6 → ((x0 = 2 → R = (some (.int ((0 + 0) + 0)), zh b I L)) ∧ (¬ x0 = 2 → R = (some (.int ((0 + 0) + 3)), zh b I L)))))))) ∧ (¬ x2 < 10 → ((¬ x3 = 3 → R = (some (.int ((0 + 2) + 0)), zh b I L)) ∧ (x3 = 3 → ((x1 < 6 → R = (some (.int ((0 + 2) + 0)), zh b I L)) ∧ (¬ x1 < 6 → ((x0 = 2 → R = (some (.int ((0 + 2) + 0)), zh b I L)) ∧ (¬ x0 = 2 → R = (some (.int ((0 + 2) + 3)), zh b I L)))))))))))) ∧ (x0 = 2 → ((¬ x3 = 1 → ((¬ x3 = 3 → R = (some (.int ((1 + 0) + 0)), zh b I L)) ∧ (x3 = 3 → ((x1 < 6 → R = (some (.int ((1 + 0) + 0)), zh b I L)) ∧ (¬ x1 < 6 → ((x0 = 2 → R = (some (.int ((1 + 0) + 0)), zh b I L)) ∧ (¬ x0 = 2 → R = (some (.int ((1 + 0) + 3)), zh b I L)))))))) ∧ (x3 = 1 → ((x2 < 10 → ((¬ x3 = 3 → R = (some (.int ((1 + 0) + 0)), zh b I L)) ∧ (x3 = 3 → ((x1 < 6 → R = (some (.int ((1 + 0) + 0)), zh b I L)) ∧ (¬ x1 < 6 → ((x0 = 2 → R = (some (.int ((1 + 0) + 0)), zh b I L)) ∧ (¬ x0 = 2 → R = (some (.int ((1 + 0) + 3)), zh b I L)))))))) ∧ (¬ x2 < 10 → ((¬ x3 = 3 → R = (some (.int ((1 + 2) + 0)), zh b I L)) ∧ (x3 = 3 → ((x1 < 6 → R = (some (.int ((1 + 2) + 0)), zh b I L)) ∧ (¬ x1 < 6 → ((x0 = 2 → R = (some (.int ((1 + 2) + 0)), zh b I L)) ∧ (¬ x0 = 2 → R = (some (.int ((1 + 2) + 3)), zh b I L)))))))))))))) :
    zA G d mX12_harmOf 0 [some (.int x0), some (.int x1), some (.int x2), some (.int x3), none] [] (zh b I L) R := by
  refine zi_iload_n dX12_harmOf_0 rfl rfl ?_
  refine zi_iconst (v := 2) dX12_harmOf_1 (by decide) ?_
  refine zi_icmp_ne (tgt := 9) dX12_harmOf_2 (by decide) (fun c1 => ?_) (fun c1 => ?_)
  · have K := K.1 c1
    refine zi_iconst (v := 0) dX12_harmOf_9 (by decide) ?_
    refine zi_istore (ls' := [some (.int x0), some (.int x1), some (.int x2), some (.int x3), some (.int 0)]) dX12_harmOf_10 (by decide) rfl ?_
    refine zi_iload dX12_harmOf_12 rfl ?_
    refine zi_iload_n dX12_harmOf_14 rfl rfl ?_
    refine zi_iconst (v := 1) dX12_harmOf_15 (by decide) ?_
    refine zi_icmp_ne (tgt := 29) dX12_harmOf_16 (by decide) (fun c2 => ?_) (fun c2 => ?_)
    · have K := K.1 c2
      refine zi_iconst (v := 0) dX12_harmOf_29 (by decide) ?_
      refine zi_iadd dX12_harmOf_30 ?_
      refine zi_istore (ls' := [some (.int x0), some (.int x1), some (.int x2), some (.int x3), some (.int (0 + 0))]) dX12_harmOf_31 (by decide) rfl ?_
      refine zi_iload dX12_harmOf_33 rfl ?_
      refine zi_iload_n dX12_harmOf_35 rfl rfl ?_
      refine zi_iconst (v := 3) dX12_harmOf_36 (by decide) ?_
      refine zi_icmp_ne (tgt := 55) dX12_harmOf_37 (by decide) (fun c3 => ?_) (fun c3 => ?_)
      · have K := K.1 c3
        refine zi_iconst (v := 0) dX12_harmOf_55 (by decide) ?_
        refine zi_iadd dX12_harmOf_56 ?_
        subst K
        exact zi_ireturn dX12_harmOf_57 rfl rfl
      · have K := K.2 c3
        refine zi_iload_n dX12_harmOf_40 rfl rfl ?_
        refine zi_bipush (v := 6) dX12_harmOf_41 (by decide) ?_
        refine zi_icmp_lt (tgt := 55) dX12_harmOf_43 (by decide) (fun c4 => ?_) (fun c4 => ?_)
        · have K := K.1 c4
          refine zi_iconst (v := 0) dX12_harmOf_55 (by decide) ?_
          refine zi_iadd dX12_harmOf_56 ?_
          subst K
          exact zi_ireturn dX12_harmOf_57 rfl rfl
        · have K := K.2 c4
          refine zi_iload_n dX12_harmOf_46 rfl rfl ?_
          refine zi_iconst (v := 2) dX12_harmOf_47 (by decide) ?_
          refine zi_icmp_eq (tgt := 55) dX12_harmOf_48 (by decide) (fun c5 => ?_) (fun c5 => ?_)
          · have K := K.1 c5
            refine zi_iconst (v := 0) dX12_harmOf_55 (by decide) ?_
            refine zi_iadd dX12_harmOf_56 ?_
            subst K
            exact zi_ireturn dX12_harmOf_57 rfl rfl
          · have K := K.2 c5
            refine zi_iconst (v := 3) dX12_harmOf_51 (by decide) ?_
            refine zi_goto (tgt := 56) dX12_harmOf_52 (by decide) ?_
            refine zi_iadd dX12_harmOf_56 ?_
            subst K
            exact zi_ireturn dX12_harmOf_57 rfl rfl
    · have K := K.2 c2
      refine zi_iload_n dX12_harmOf_19 rfl rfl ?_
      refine zi_bipush (v := 10) dX12_harmOf_20 (by decide) ?_
      refine zi_icmp_lt (tgt := 29) dX12_harmOf_22 (by decide) (fun c6 => ?_) (fun c6 => ?_)
      · have K := K.1 c6
        refine zi_iconst (v := 0) dX12_harmOf_29 (by decide) ?_
        refine zi_iadd dX12_harmOf_30 ?_
        refine zi_istore (ls' := [some (.int x0), some (.int x1), some (.int x2), some (.int x3), some (.int (0 + 0))]) dX12_harmOf_31 (by decide) rfl ?_
        refine zi_iload dX12_harmOf_33 rfl ?_
        refine zi_iload_n dX12_harmOf_35 rfl rfl ?_
        refine zi_iconst (v := 3) dX12_harmOf_36 (by decide) ?_
        refine zi_icmp_ne (tgt := 55) dX12_harmOf_37 (by decide) (fun c7 => ?_) (fun c7 => ?_)
        · have K := K.1 c7
          refine zi_iconst (v := 0) dX12_harmOf_55 (by decide) ?_
          refine zi_iadd dX12_harmOf_56 ?_
          subst K
          exact zi_ireturn dX12_harmOf_57 rfl rfl
        · have K := K.2 c7
          refine zi_iload_n dX12_harmOf_40 rfl rfl ?_
          refine zi_bipush (v := 6) dX12_harmOf_41 (by decide) ?_
          refine zi_icmp_lt (tgt := 55) dX12_harmOf_43 (by decide) (fun c8 => ?_) (fun c8 => ?_)
          · have K := K.1 c8
            refine zi_iconst (v := 0) dX12_harmOf_55 (by decide) ?_
            refine zi_iadd dX12_harmOf_56 ?_
            subst K
            exact zi_ireturn dX12_harmOf_57 rfl rfl
          · have K := K.2 c8
            refine zi_iload_n dX12_harmOf_46 rfl rfl ?_
            refine zi_iconst (v := 2) dX12_harmOf_47 (by decide) ?_
            refine zi_icmp_eq (tgt := 55) dX12_harmOf_48 (by decide) (fun c9 => ?_) (fun c9 => ?_)
            · have K := K.1 c9
              refine zi_iconst (v := 0) dX12_harmOf_55 (by decide) ?_
              refine zi_iadd dX12_harmOf_56 ?_
              subst K
              exact zi_ireturn dX12_harmOf_57 rfl rfl
            · have K := K.2 c9
              refine zi_iconst (v := 3) dX12_harmOf_51 (by decide) ?_
              refine zi_goto (tgt := 56) dX12_harmOf_52 (by decide) ?_
              refine zi_iadd dX12_harmOf_56 ?_
              subst K
              exact zi_ireturn dX12_harmOf_57 rfl rfl
      · have K := K.2 c6
        refine zi_iconst (v := 2) dX12_harmOf_25 (by decide) ?_
        refine zi_goto (tgt := 30) dX12_harmOf_26 (by decide) ?_
        refine zi_iadd dX12_harmOf_30 ?_
        refine zi_istore (ls' := [some (.int x0), some (.int x1), some (.int x2), some (.int x3), some (.int (0 + 2))]) dX12_harmOf_31 (by decide) rfl ?_
        refine zi_iload dX12_harmOf_33 rfl ?_
        refine zi_iload_n dX12_harmOf_35 rfl rfl ?_
        refine zi_iconst (v := 3) dX12_harmOf_36 (by decide) ?_
        refine zi_icmp_ne (tgt := 55) dX12_harmOf_37 (by decide) (fun c10 => ?_) (fun c10 => ?_)
        · have K := K.1 c10
          refine zi_iconst (v := 0) dX12_harmOf_55 (by decide) ?_
          refine zi_iadd dX12_harmOf_56 ?_
          subst K
          exact zi_ireturn dX12_harmOf_57 rfl rfl
        · have K := K.2 c10
          refine zi_iload_n dX12_harmOf_40 rfl rfl ?_
          refine zi_bipush (v := 6) dX12_harmOf_41 (by decide) ?_
          refine zi_icmp_lt (tgt := 55) dX12_harmOf_43 (by decide) (fun c11 => ?_) (fun c11 => ?_)
          · have K := K.1 c11
            refine zi_iconst (v := 0) dX12_harmOf_55 (by decide) ?_
            refine zi_iadd dX12_harmOf_56 ?_
            subst K
            exact zi_ireturn dX12_harmOf_57 rfl rfl
          · have K := K.2 c11
            refine zi_iload_n dX12_harmOf_46 rfl rfl ?_
            refine zi_iconst (v := 2) dX12_harmOf_47 (by decide) ?_
            refine zi_icmp_eq (tgt := 55) dX12_harmOf_48 (by decide) (fun c12 => ?_) (fun c12 => ?_)
            · have K := K.1 c12
              refine zi_iconst (v := 0) dX12_harmOf_55 (by decide) ?_
              refine zi_iadd dX12_harmOf_56 ?_
              subst K
              exact zi_ireturn dX12_harmOf_57 rfl rfl
            · have K := K.2 c12
              refine zi_iconst (v := 3) dX12_harmOf_51 (by decide) ?_
              refine zi_goto (tgt := 56) dX12_harmOf_52 (by decide) ?_
              refine zi_iadd dX12_harmOf_56 ?_
              subst K
              exact zi_ireturn dX12_harmOf_57 rfl rfl
  · have K := K.2 c1
    refine zi_iconst (v := 1) dX12_harmOf_5 (by decide) ?_
    refine zi_goto (tgt := 10) dX12_harmOf_6 (by decide) ?_
    refine zi_istore (ls' := [some (.int x0), some (.int x1), some (.int x2), some (.int x3), some (.int 1)]) dX12_harmOf_10 (by decide) rfl ?_
    refine zi_iload dX12_harmOf_12 rfl ?_
    refine zi_iload_n dX12_harmOf_14 rfl rfl ?_
    refine zi_iconst (v := 1) dX12_harmOf_15 (by decide) ?_
    refine zi_icmp_ne (tgt := 29) dX12_harmOf_16 (by decide) (fun c13 => ?_) (fun c13 => ?_)
    · have K := K.1 c13
      refine zi_iconst (v := 0) dX12_harmOf_29 (by decide) ?_
      refine zi_iadd dX12_harmOf_30 ?_
      refine zi_istore (ls' := [some (.int x0), some (.int x1), some (.int x2), some (.int x3), some (.int (1 + 0))]) dX12_harmOf_31 (by decide) rfl ?_
      refine zi_iload dX12_harmOf_33 rfl ?_
      refine zi_iload_n dX12_harmOf_35 rfl rfl ?_
      refine zi_iconst (v := 3) dX12_harmOf_36 (by decide) ?_
      refine zi_icmp_ne (tgt := 55) dX12_harmOf_37 (by decide) (fun c14 => ?_) (fun c14 => ?_)
      · have K := K.1 c14
        refine zi_iconst (v := 0) dX12_harmOf_55 (by decide) ?_
        refine zi_iadd dX12_harmOf_56 ?_
        subst K
        exact zi_ireturn dX12_harmOf_57 rfl rfl
      · have K := K.2 c14
        refine zi_iload_n dX12_harmOf_40 rfl rfl ?_
        refine zi_bipush (v := 6) dX12_harmOf_41 (by decide) ?_
        refine zi_icmp_lt (tgt := 55) dX12_harmOf_43 (by decide) (fun c15 => ?_) (fun c15 => ?_)
        · have K := K.1 c15
          refine zi_iconst (v := 0) dX12_harmOf_55 (by decide) ?_
          refine zi_iadd dX12_harmOf_56 ?_
          subst K
          exact zi_ireturn dX12_harmOf_57 rfl rfl
        · have K := K.2 c15
          refine zi_iload_n dX12_harmOf_46 rfl rfl ?_
          refine zi_iconst (v := 2) dX12_harmOf_47 (by decide) ?_
          refine zi_icmp_eq (tgt := 55) dX12_harmOf_48 (by decide) (fun c16 => ?_) (fun c16 => ?_)
          · have K := K.1 c16
            refine zi_iconst (v := 0) dX12_harmOf_55 (by decide) ?_
            refine zi_iadd dX12_harmOf_56 ?_
            subst K
            exact zi_ireturn dX12_harmOf_57 rfl rfl
          · have K := K.2 c16
            refine zi_iconst (v := 3) dX12_harmOf_51 (by decide) ?_
            refine zi_goto (tgt := 56) dX12_harmOf_52 (by decide) ?_
            refine zi_iadd dX12_harmOf_56 ?_
            subst K
            exact zi_ireturn dX12_harmOf_57 rfl rfl
    · have K := K.2 c13
      refine zi_iload_n dX12_harmOf_19 rfl rfl ?_
      refine zi_bipush (v := 10) dX12_harmOf_20 (by decide) ?_
      refine zi_icmp_lt (tgt := 29) dX12_harmOf_22 (by decide) (fun c17 => ?_) (fun c17 => ?_)
      · have K := K.1 c17
        refine zi_iconst (v := 0) dX12_harmOf_29 (by decide) ?_
        refine zi_iadd dX12_harmOf_30 ?_
        refine zi_istore (ls' := [some (.int x0), some (.int x1), some (.int x2), some (.int x3), some (.int (1 + 0))]) dX12_harmOf_31 (by decide) rfl ?_
        refine zi_iload dX12_harmOf_33 rfl ?_
        refine zi_iload_n dX12_harmOf_35 rfl rfl ?_
        refine zi_iconst (v := 3) dX12_harmOf_36 (by decide) ?_
        refine zi_icmp_ne (tgt := 55) dX12_harmOf_37 (by decide) (fun c18 => ?_) (fun c18 => ?_)
        · have K := K.1 c18
          refine zi_iconst (v := 0) dX12_harmOf_55 (by decide) ?_
          refine zi_iadd dX12_harmOf_56 ?_
          subst K
          exact zi_ireturn dX12_harmOf_57 rfl rfl
        · have K := K.2 c18
          refine zi_iload_n dX12_harmOf_40 rfl rfl ?_
          refine zi_bipush (v := 6) dX12_harmOf_41 (by decide) ?_
          refine zi_icmp_lt (tgt := 55) dX12_harmOf_43 (by decide) (fun c19 => ?_) (fun c19 => ?_)
          · have K := K.1 c19
            refine zi_iconst (v := 0) dX12_harmOf_55 (by decide) ?_
            refine zi_iadd dX12_harmOf_56 ?_
            subst K
            exact zi_ireturn dX12_harmOf_57 rfl rfl
          · have K := K.2 c19
            refine zi_iload_n dX12_harmOf_46 rfl rfl ?_
            refine zi_iconst (v := 2) dX12_harmOf_47 (by decide) ?_
            refine zi_icmp_eq (tgt := 55) dX12_harmOf_48 (by decide) (fun c20 => ?_) (fun c20 => ?_)
            · have K := K.1 c20
              refine zi_iconst (v := 0) dX12_harmOf_55 (by decide) ?_
              refine zi_iadd dX12_harmOf_56 ?_
              subst K
              exact zi_ireturn dX12_harmOf_57 rfl rfl
            · have K := K.2 c20
              refine zi_iconst (v := 3) dX12_harmOf_51 (by decide) ?_
              refine zi_goto (tgt := 56) dX12_harmOf_52 (by decide) ?_
              refine zi_iadd dX12_harmOf_56 ?_
              subst K
              exact zi_ireturn dX12_harmOf_57 rfl rfl
      · have K := K.2 c17
        refine zi_iconst (v := 2) dX12_harmOf_25 (by decide) ?_
        refine zi_goto (tgt := 30) dX12_harmOf_26 (by decide) ?_
        refine zi_iadd dX12_harmOf_30 ?_
        refine zi_istore (ls' := [some (.int x0), some (.int x1), some (.int x2), some (.int x3), some (.int (1 + 2))]) dX12_harmOf_31 (by decide) rfl ?_
        refine zi_iload dX12_harmOf_33 rfl ?_
        refine zi_iload_n dX12_harmOf_35 rfl rfl ?_
        refine zi_iconst (v := 3) dX12_harmOf_36 (by decide) ?_
        refine zi_icmp_ne (tgt := 55) dX12_harmOf_37 (by decide) (fun c21 => ?_) (fun c21 => ?_)
        · have K := K.1 c21
          refine zi_iconst (v := 0) dX12_harmOf_55 (by decide) ?_
          refine zi_iadd dX12_harmOf_56 ?_
          subst K
          exact zi_ireturn dX12_harmOf_57 rfl rfl
        · have K := K.2 c21
          refine zi_iload_n dX12_harmOf_40 rfl rfl ?_
          refine zi_bipush (v := 6) dX12_harmOf_41 (by decide) ?_
          refine zi_icmp_lt (tgt := 55) dX12_harmOf_43 (by decide) (fun c22 => ?_) (fun c22 => ?_)
          · have K := K.1 c22
            refine zi_iconst (v := 0) dX12_harmOf_55 (by decide) ?_
            refine zi_iadd dX12_harmOf_56 ?_
            subst K
            exact zi_ireturn dX12_harmOf_57 rfl rfl
          · have K := K.2 c22
            refine zi_iload_n dX12_harmOf_46 rfl rfl ?_
            refine zi_iconst (v := 2) dX12_harmOf_47 (by decide) ?_
            refine zi_icmp_eq (tgt := 55) dX12_harmOf_48 (by decide) (fun c23 => ?_) (fun c23 => ?_)
            · have K := K.1 c23
              refine zi_iconst (v := 0) dX12_harmOf_55 (by decide) ?_
              refine zi_iadd dX12_harmOf_56 ?_
              subst K
              exact zi_ireturn dX12_harmOf_57 rfl rfl
            · have K := K.2 c23
              refine zi_iconst (v := 3) dX12_harmOf_51 (by decide) ?_
              refine zi_goto (tgt := 56) dX12_harmOf_52 (by decide) ?_
              refine zi_iadd dX12_harmOf_56 ?_
              subst K
              exact zi_ireturn dX12_harmOf_57 rfl rfl
set_option maxRecDepth 100000 in
theorem tX12_steps_0 {G : zG} {d b : Nat} {I : Nat → Nat → Int32} {L : Nat → Nat → Int64} {R : zR} {x1 : Int32} {x2 : Int32}
    (K : ((¬ x2 = 1 → ((¬ x2 = 2 → R = (some (.int x1), zh b I L)) ∧ (x2 = 2 → ((((I 57 1) - 1) ≤ x1 → R = (some (.int x1), zh b I L)) ∧ (¬ ((I 57 1) - 1) ≤ x1 → R = (some (.int (x1 + 1)), zh b I L)))))) ∧ (x2 = 1 → ((x1 ≤ 0 → ((¬ x2 = 2 → R = (some (.int x1), zh b I L)) ∧ (x2 = 2 → ((((I 57 1) - 1) ≤ x1 → R = (some (.int x1), zh b I L)) ∧ (¬ ((I 57 1) - 1) ≤ x1 → R = (some (.int (x1 + 1)), zh b I L)))))) ∧ (¬ x1 ≤ 0 → R = (some (.int (x1 - 1)), zh b I L)))))) :
    zA G d mX12_steps 0 [some (.ref 56), some (.int x1), some (.int x2)] [] (zh b I L) R := by
  refine zi_iload_n dX12_steps_0 rfl rfl ?_
  refine zi_iconst (v := 1) dX12_steps_1 (by decide) ?_
  refine zi_icmp_ne (tgt := 15) dX12_steps_2 (by decide) (fun c1 => ?_) (fun c1 => ?_)
  · have K := K.1 c1
    refine zi_iload_n dX12_steps_15 rfl rfl ?_
    refine zi_iconst (v := 2) dX12_steps_16 (by decide) ?_
    refine zi_icmp_ne (tgt := 38) dX12_steps_17 (by decide) (fun c2 => ?_) (fun c2 => ?_)
    · have K := K.1 c2
      refine zi_iload_n dX12_steps_38 rfl rfl ?_
      subst K
      exact zi_ireturn dX12_steps_39 rfl rfl
    · have K := K.2 c2
      refine zi_iload_n dX12_steps_20 rfl rfl ?_
      refine zi_aload_n dX12_steps_21 rfl rfl ?_
      refine zg_getF (k := 0) (v := .ref 57) dX12_steps_22 zc12 rfl (Nat.le_of_ble_eq_true rfl) (Nat.le_of_ble_eq_true rfl) u_806 rfl (rfl) ?_
      refine zi_iconst (v := 1) dX12_steps_25 (by decide) ?_
      refine zg_iaload dX12_steps_26 (rfl) (Nat.le_of_ble_eq_true rfl) (zvi (by decide)) ?_
      show zA G d mX12_steps 27 [some (.ref 56), some (.int x1), some (.int x2)] [.int (I 57 1), .int x1] (zh b I L) R
      refine zi_iconst (v := 1) dX12_steps_27 (by decide) ?_
      refine zi_isub dX12_steps_28 ?_
      refine zi_icmp_ge (tgt := 38) dX12_steps_29 (by decide) (fun c3 => ?_) (fun c3 => ?_)
      · have K := K.1 c3
        refine zi_iload_n dX12_steps_38 rfl rfl ?_
        subst K
        exact zi_ireturn dX12_steps_39 rfl rfl
      · have K := K.2 c3
        refine zi_iload_n dX12_steps_32 rfl rfl ?_
        refine zi_iconst (v := 1) dX12_steps_33 (by decide) ?_
        refine zi_iadd dX12_steps_34 ?_
        refine zi_goto (tgt := 39) dX12_steps_35 (by decide) ?_
        subst K
        exact zi_ireturn dX12_steps_39 rfl rfl
  · have K := K.2 c1
    refine zi_iload_n dX12_steps_5 rfl rfl ?_
    refine zi_if_le (tgt := 15) dX12_steps_6 (by decide) (fun c4 => ?_) (fun c4 => ?_)
    · have K := K.1 c4
      refine zi_iload_n dX12_steps_15 rfl rfl ?_
      refine zi_iconst (v := 2) dX12_steps_16 (by decide) ?_
      refine zi_icmp_ne (tgt := 38) dX12_steps_17 (by decide) (fun c5 => ?_) (fun c5 => ?_)
      · have K := K.1 c5
        refine zi_iload_n dX12_steps_38 rfl rfl ?_
        subst K
        exact zi_ireturn dX12_steps_39 rfl rfl
      · have K := K.2 c5
        refine zi_iload_n dX12_steps_20 rfl rfl ?_
        refine zi_aload_n dX12_steps_21 rfl rfl ?_
        refine zg_getF (k := 0) (v := .ref 57) dX12_steps_22 zc12 rfl (Nat.le_of_ble_eq_true rfl) (Nat.le_of_ble_eq_true rfl) u_806 rfl (rfl) ?_
        refine zi_iconst (v := 1) dX12_steps_25 (by decide) ?_
        refine zg_iaload dX12_steps_26 (rfl) (Nat.le_of_ble_eq_true rfl) (zvi (by decide)) ?_
        show zA G d mX12_steps 27 [some (.ref 56), some (.int x1), some (.int x2)] [.int (I 57 1), .int x1] (zh b I L) R
        refine zi_iconst (v := 1) dX12_steps_27 (by decide) ?_
        refine zi_isub dX12_steps_28 ?_
        refine zi_icmp_ge (tgt := 38) dX12_steps_29 (by decide) (fun c6 => ?_) (fun c6 => ?_)
        · have K := K.1 c6
          refine zi_iload_n dX12_steps_38 rfl rfl ?_
          subst K
          exact zi_ireturn dX12_steps_39 rfl rfl
        · have K := K.2 c6
          refine zi_iload_n dX12_steps_32 rfl rfl ?_
          refine zi_iconst (v := 1) dX12_steps_33 (by decide) ?_
          refine zi_iadd dX12_steps_34 ?_
          refine zi_goto (tgt := 39) dX12_steps_35 (by decide) ?_
          subst K
          exact zi_ireturn dX12_steps_39 rfl rfl
    · have K := K.2 c4
      refine zi_iload_n dX12_steps_9 rfl rfl ?_
      refine zi_iconst (v := 1) dX12_steps_10 (by decide) ?_
      refine zi_isub dX12_steps_11 ?_
      refine zi_goto (tgt := 39) dX12_steps_12 (by decide) ?_
      subst K
      exact zi_ireturn dX12_steps_39 rfl rfl
set_option maxRecDepth 100000 in
theorem tX12_refuse_0 {G : zG} {d b : Nat} {I : Nat → Nat → Int32} {L : Nat → Nat → Int64} {R : zR} {x1 : Int32}
    (K : (vp_in ((-2) - x1) 3 ∧ (vp_in ((-2) - x1) 3 ∧ R = (some (.int x1), zh b (zup I 62 (zx ((-2) - x1)) ((I 62 (zx ((-2) - x1))) + 1)) L)))) :
    zA G d mX12_refuse 0 [some (.ref 56), some (.int x1)] [] (zh b I L) R := by
  refine zi_aload_n dX12_refuse_0 rfl rfl ?_
  refine zg_getF (k := 8) (v := .ref 62) dX12_refuse_1 zc12 rfl (Nat.le_of_ble_eq_true rfl) (Nat.le_of_ble_eq_true rfl) u_814 rfl (rfl) ?_
  refine zi_bipush (v := (-2)) dX12_refuse_4 (by decide) ?_
  refine zi_iload_n dX12_refuse_6 rfl rfl ?_
  refine zi_isub dX12_refuse_7 ?_
  refine zi_dup2 dX12_refuse_8 rfl rfl ?_
  have o1 := K.1
  have K := K.2
  refine zg_iaload dX12_refuse_9 (rfl) (Nat.le_of_ble_eq_true rfl) o1 ?_
  refine zi_iconst (v := 1) dX12_refuse_10 (by decide) ?_
  refine zi_iadd dX12_refuse_11 ?_
  have o2 := K.1
  have K := K.2
  refine zg_iastore dX12_refuse_12 (rfl) (Nat.le_of_ble_eq_true rfl) o2 ?_
  refine zi_iload_n dX12_refuse_13 rfl rfl ?_
  subst K
  exact zi_ireturn dX12_refuse_14 rfl rfl
