/-! rows by program: X4_hasCell -/
set_option maxRecDepth 100000 in
theorem tX4_hasCell_0 {G : zG} {d b : Nat} {q : Nat} {I : Nat → Nat → Int32} {L : Nat → Nat → Int64} {R : zR} {x1 : Int32} {x2 : Int32} (hq : zhl q) (hR : zR0 R)
    (K : ((¬ (0 ≤ x1 ∧ x1 ≤ I q 0 - 1) → R = (some (.int 0), zh b I L)) ∧ ((0 ≤ x1 ∧ x1 ≤ I q 0 - 1) → ((¬ (0 ≤ x2 ∧ x2 ≤ ((I q 1) - 1)) → R = (some (.int 0), zh b I L)) ∧ ((0 ≤ x2 ∧ x2 ≤ ((I q 1) - 1)) → R = (some (.int 1), zh b I L)))))) :
    zA G (d + 2) mX4_hasCell 0 [some (.ref q), some (.int x1), some (.int x2)] [] (zh b I L) R := by
  refine zi_aload_n dX4_hasCell_0 rfl rfl ?_
  refine zi_iload_n dX4_hasCell_1 rfl rfl ?_
  refine zi_callV (N := mX4_hasRow) (av := [.int x1]) (st := []) (R1 := (some (.int (zb (0 ≤ x1 ∧ x1 ≤ I q 0 - 1))), zh b I L)) dX4_hasCell_2 okX4_hasRow u_309 u_310 u_311 zc4 (hq.sh) hq.l0 arX4_hasRow rfl (Nat.le_of_ble_eq_true rfl) (kX4_hasRow hq _) hR ?_
  show zA G (d + 2) mX4_hasCell 5 [some (.ref q), some (.int x1), some (.int x2)] [.int (zb (0 ≤ x1 ∧ x1 ≤ I q 0 - 1))] (zh b I L) R
  refine zi_if_eq (tgt := 26) dX4_hasCell_5 (by decide) (fun c1 => ?_) (fun c1 => ?_)
  · have K := K.1 (zb_0 c1)
    refine zi_iconst (v := 0) dX4_hasCell_26 (by decide) ?_
    subst K
    exact zi_ireturn dX4_hasCell_27 rfl (by decide)
  · have K := K.2 (zb_1 c1)
    refine zi_iload_n dX4_hasCell_8 rfl rfl ?_
    refine zi_iconst (v := 0) dX4_hasCell_9 (by decide) ?_
    refine zi_aload_n dX4_hasCell_10 rfl rfl ?_
    refine zg_getI (k := 1) dX4_hasCell_11 zc4 hq.sh hq.l0 (Nat.le_of_ble_eq_true rfl) u_42 rfl ?_
    refine zi_iconst (v := 1) dX4_hasCell_14 (by decide) ?_
    refine zi_isub dX4_hasCell_15 ?_
    refine zi_callSN (N := mX11_within) (av := [.int x2, .int 0, .int ((I q 1) - 1)]) (st := []) (R1 := (some (.int (zb (0 ≤ x2 ∧ x2 ≤ ((I q 1) - 1)))), zh b I L)) dX4_hasCell_16 okX11_within (by decide) u_295 arX11_within rfl (Nat.le_of_ble_eq_true rfl) (kX11_within _ _ _) hR ?_
    show zA G (d + 2) mX4_hasCell 19 [some (.ref q), some (.int x1), some (.int x2)] [.int (zb (0 ≤ x2 ∧ x2 ≤ ((I q 1) - 1)))] (zh b I L) R
    refine zi_if_eq (tgt := 26) dX4_hasCell_19 (by decide) (fun c2 => ?_) (fun c2 => ?_)
    · have K := K.1 (zb_0 c2)
      refine zi_iconst (v := 0) dX4_hasCell_26 (by decide) ?_
      subst K
      exact zi_ireturn dX4_hasCell_27 rfl (by decide)
    · have K := K.2 (zb_1 c2)
      refine zi_iconst (v := 1) dX4_hasCell_22 (by decide) ?_
      refine zi_goto (tgt := 27) dX4_hasCell_23 (by decide) ?_
      subst K
      exact zi_ireturn dX4_hasCell_27 rfl (by decide)
