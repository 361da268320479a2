/-! rows by program: X4_hasCell, X5_numbered, X9_ownPace, X9_delayInNettles, X9_harmIn, X8_delayInNettles, X8_felt -/
set_option maxRecDepth 100000 in
theorem tX4_hasCell_0 {G : zG} {d b : Nat} {q : Nat} {I : Nat → Nat → Int32} {L : Nat → Nat → Int64} {R : zR} {x1 : Int32} {x2 : Int32} (hq : zhl q) (hR : zR0 R)
    (K : ((¬ (0 ≤ x1 ∧ x1 ≤ I q 0 - 1) → R = (some (.int 0), zh b I L)) ∧ ((0 ≤ x1 ∧ x1 ≤ I q 0 - 1) → ((¬ (0 ≤ x2 ∧ x2 ≤ ((I q 1) - 1)) → R = (some (.int 0), zh b I L)) ∧ ((0 ≤ x2 ∧ x2 ≤ ((I q 1) - 1)) → R = (some (.int 1), zh b I L)))))) :
    zA G (d + 2) mX4_hasCell 0 [some (.ref q), some (.int x1), some (.int x2)] [] (zh b I L) R := by
  refine zi_aload_n dX4_hasCell_0 rfl rfl ?_
  refine zi_iload_n dX4_hasCell_1 rfl rfl ?_
  refine zi_callV (N := mX4_hasRow) (av := [.int x1]) (st := []) (R1 := (some (.int (zb (0 ≤ x1 ∧ x1 ≤ I q 0 - 1))), zh b I L)) dX4_hasCell_2 okX4_hasRow u_309 u_310 u_311 zc4 (hq.sh) hq.l0 arX4_hasRow rfl (Nat.le_of_ble_eq_true rfl) (kX4_hasRow hq _) hR ?_
  show zA G (d + 2) mX4_hasCell 5 [some (.ref q), some (.int x1), some (.int x2)] [.int (zb (0 ≤ x1 ∧ x1 ≤ I q 0 - 1))] (zh b I L) R
  refine zi_if_eq (tgt := 26) dX4_hasCell_5 (by decide) (fun c1 => ?_) (fun c1 => ?_)
  · have K := K.1 (zb_0 c1)
    refine zi_iconst (v := 0) dX4_hasCell_26 (by decide) ?_
    subst K
    exact zi_ireturn dX4_hasCell_27 rfl (by decide)
  · have K := K.2 (zb_1 c1)
    refine zi_iload_n dX4_hasCell_8 rfl rfl ?_
    refine zi_iconst (v := 0) dX4_hasCell_9 (by decide) ?_
    refine zi_aload_n dX4_hasCell_10 rfl rfl ?_
    refine zg_getI (k := 1) dX4_hasCell_11 zc4 hq.sh hq.l0 (Nat.le_of_ble_eq_true rfl) u_42 rfl ?_
    refine zi_iconst (v := 1) dX4_hasCell_14 (by decide) ?_
    refine zi_isub dX4_hasCell_15 ?_
    refine zi_callSN (N := mX11_within) (av := [.int x2, .int 0, .int ((I q 1) - 1)]) (st := []) (R1 := (some (.int (zb (0 ≤ x2 ∧ x2 ≤ ((I q 1) - 1)))), zh b I L)) dX4_hasCell_16 okX11_within (by decide) u_295 arX11_within rfl (Nat.le_of_ble_eq_true rfl) (kX11_within _ _ _) hR ?_
    show zA G (d + 2) mX4_hasCell 19 [some (.ref q), some (.int x1), some (.int x2)] [.int (zb (0 ≤ x2 ∧ x2 ≤ ((I q 1) - 1)))] (zh b I L) R
    refine zi_if_eq (tgt := 26) dX4_hasCell_19 (by decide) (fun c2 => ?_) (fun c2 => ?_)
    · have K := K.1 (zb_0 c2)
      refine zi_iconst (v := 0) dX4_hasCell_26 (by decide) ?_
      subst K
      exact zi_ireturn dX4_hasCell_27 rfl (by decide)
    · have K := K.2 (zb_1 c2)
      refine zi_iconst (v := 1) dX4_hasCell_22 (by decide) ?_
      refine zi_goto (tgt := 27) dX4_hasCell_23 (by decide) ?_
      subst K
      exact zi_ireturn dX4_hasCell_27 rfl (by decide)
set_option maxRecDepth 100000 in
theorem tX5_numbered_0 {G : zG} {d b : Nat} {I : Nat → Nat → Int32} {L : Nat → Nat → Int64} {R : zR} {x1 : Int32}
    (K : (((x1.toInt < 1 ∨ 4 < x1.toInt) → R = (some (.ref (38 + 0)), zh b I L)) ∧ (x1 = 1 → R = (some (.ref (38 + 1)), zh b I L)) ∧ (x1 = 2 → R = (some (.ref (38 + 2)), zh b I L)) ∧ (x1 = 3 → R = (some (.ref (38 + 3)), zh b I L)) ∧ (x1 = 4 → R = (some (.ref (38 + 4)), zh b I L)))) :
    zA G d mX5_numbered 0 [some (.ref 37), some (.int x1)] [] (zh b I L) R := by
  refine zi_iload_n dX5_numbered_0 rfl rfl ?_
  rcases zsw2 x1 1 4 (by decide) with c1 | ⟨k2, hk1, hk2, c1⟩
  · have K := K.1 c1
    refine zi_tableOut (tgt := 52) dX5_numbered_1 c1 (by decide) ?_
    refine zi_aload_n dX5_numbered_52 rfl rfl ?_
    refine zg_getF (k := 0) (v := .ref (38 + 0)) dX5_numbered_53 zc5 rfl (Nat.le_of_ble_eq_true rfl) (Nat.le_of_ble_eq_true rfl) u_149 rfl (rfl) ?_
    subst K
    exact zi_areturn dX5_numbered_56 rfl
  · have K := K.2
    have hk : k2 = 1 ∨ k2 = 2 ∨ k2 = 3 ∨ k2 = 4 := by omega
    rcases hk with rfl | rfl | rfl | rfl
    · have K := K.1 c1
      refine zi_tableIn (off := 31) (tgt := 32) dX5_numbered_1 (by rw [c1]; decide) (by rw [c1]; decide) (by rw [c1]; rfl) (by decide) ?_
      refine zi_aload_n dX5_numbered_32 rfl rfl ?_
      refine zg_getF (k := 1) (v := .ref (38 + 1)) dX5_numbered_33 zc5 rfl (Nat.le_of_ble_eq_true rfl) (Nat.le_of_ble_eq_true rfl) u_150 rfl (rfl) ?_
      subst K
      exact zi_areturn dX5_numbered_36 rfl
    · have K := K.2.1 c1
      refine zi_tableIn (off := 36) (tgt := 37) dX5_numbered_1 (by rw [c1]; decide) (by rw [c1]; decide) (by rw [c1]; rfl) (by decide) ?_
      refine zi_aload_n dX5_numbered_37 rfl rfl ?_
      refine zg_getF (k := 2) (v := .ref (38 + 2)) dX5_numbered_38 zc5 rfl (Nat.le_of_ble_eq_true rfl) (Nat.le_of_ble_eq_true rfl) u_151 rfl (rfl) ?_
      subst K
      exact zi_areturn dX5_numbered_41 rfl
    · have K := K.2.2.1 c1
      refine zi_tableIn (off := 41) (tgt := 42) dX5_numbered_1 (by rw [c1]; decide) (by rw [c1]; decide) (by rw [c1]; rfl) (by decide) ?_
      refine zi_aload_n dX5_numbered_42 rfl rfl ?_
      refine zg_getF (k := 3) (v := .ref (38 + 3)) dX5_numbered_43 zc5 rfl (Nat.le_of_ble_eq_true rfl) (Nat.le_of_ble_eq_true rfl) u_153 rfl (rfl) ?_
      subst K
      exact zi_areturn dX5_numbered_46 rfl
    · have K := K.2.2.2 c1
      refine zi_tableIn (off := 46) (tgt := 47) dX5_numbered_1 (by rw [c1]; decide) (by rw [c1]; decide) (by rw [c1]; rfl) (by decide) ?_
      refine zi_aload_n dX5_numbered_47 rfl rfl ?_
      refine zg_getF (k := 4) (v := .ref (38 + 4)) dX5_numbered_48 zc5 rfl (Nat.le_of_ble_eq_true rfl) (Nat.le_of_ble_eq_true rfl) u_154 rfl (rfl) ?_
      subst K
      exact zi_areturn dX5_numbered_51 rfl
set_option maxRecDepth 100000 in
theorem tX9_ownPace_0 {G : zG} {d b : Nat} {I : Nat → Nat → Int32} {L : Nat → Nat → Int64} {R : zR} {x1 : Int32} {x2 : Int32} {x3 : Int32} {x4 : Int32} {t : Nat}
    (K : ((¬ x3 = 3 → R = (some (.int (x1 + (x2 / 2))), zh b I L)) ∧ (x3 = 3 → R = (some (.int 0), zh b I L)))) :
    zA G d mX9_ownPace 0 [some (.ref t), some (.int x1), some (.int x2), some (.int x3), some (.int x4)] [] (zh b I L) R := by
  refine zi_iload_n dX9_ownPace_0 rfl rfl ?_
  refine zi_iconst (v := 3) dX9_ownPace_1 (by decide) ?_
  refine zi_icmp_ne (tgt := 9) dX9_ownPace_2 (by decide) (fun c1 => ?_) (fun c1 => ?_)
  · have K := K.1 c1
    refine zi_iload_n dX9_ownPace_9 rfl rfl ?_
    refine zi_iload_n dX9_ownPace_10 rfl rfl ?_
    refine zi_iconst (v := 2) dX9_ownPace_11 (by decide) ?_
    refine zi_idiv dX9_ownPace_12 (by decide) ?_
    refine zi_iadd dX9_ownPace_13 ?_
    subst K
    exact zi_ireturn dX9_ownPace_14 rfl rfl
  · have K := K.2 c1
    refine zi_iconst (v := 0) dX9_ownPace_5 (by decide) ?_
    refine zi_goto (tgt := 14) dX9_ownPace_6 (by decide) ?_
    subst K
    exact zi_ireturn dX9_ownPace_14 rfl rfl
set_option maxRecDepth 100000 in
theorem tX9_delayInNettles_0 {G : zG} {d b : Nat} {I : Nat → Nat → Int32} {L : Nat → Nat → Int64} {R : zR}  {t : Nat}
    (K : R = (some (.int 5), zh b I L)) :
    zA G d mX9_delayInNettles 0 [some (.ref t)] [] (zh b I L) R := by
  refine zi_iconst (v := 5) dX9_delayInNettles_0 (by decide) ?_
  subst K
  exact zi_ireturn dX9_delayInNettles_1 rfl rfl
set_option maxRecDepth 100000 in
theorem tX9_harmIn_0 {G : zG} {d b : Nat} {I : Nat → Nat → Int32} {L : Nat → Nat → Int64} {R : zR} {x1 : Int32} {x2 : Int32} {x3 : Int32} {t : Nat}
    (K : ((¬ x1 = 1 → ((¬ x1 = 3 → R = (some (.int 0), zh b I L)) ∧ (x1 = 3 → ((x2 < 6 → R = (some (.int 0), zh b I L)) ∧ (¬ x2 < 6 → R = (some (.int 3), zh b I L)))))) ∧ (x1 = 1 → ((x3 < 10 → ((¬ x1 = 3 → R = (some (.int 0), zh b I L)) ∧ (x1 = 3 → ((x2 < 6 → R = (some (.int 0), zh b I L)) ∧ (¬ x2 < 6 → R = (some (.int 3), zh b I L)))))) ∧ (¬ x3 < 10 → R = (some (.int 2), zh b I L)))))) :
    zA G d mX9_harmIn 0 [some (.ref t), some (.int x1), some (.int x2), some (.int x3)] [] (zh b I L) R := by
  refine zi_iload_n dX9_harmIn_0 rfl rfl ?_
  refine zi_iconst (v := 1) dX9_harmIn_1 (by decide) ?_
  refine zi_icmp_ne (tgt := 13) dX9_harmIn_2 (by decide) (fun c1 => ?_) (fun c1 => ?_)
  · have K := K.1 c1
    refine zi_iload_n dX9_harmIn_13 rfl rfl ?_
    refine zi_iconst (v := 3) dX9_harmIn_14 (by decide) ?_
    refine zi_icmp_ne (tgt := 28) dX9_harmIn_15 (by decide) (fun c2 => ?_) (fun c2 => ?_)
    · have K := K.1 c2
      refine zi_iconst (v := 0) dX9_harmIn_28 (by decide) ?_
      subst K
      exact zi_ireturn dX9_harmIn_29 rfl rfl
    · have K := K.2 c2
      refine zi_iload_n dX9_harmIn_18 rfl rfl ?_
      refine zi_bipush (v := 6) dX9_harmIn_19 (by decide) ?_
      refine zi_icmp_lt (tgt := 28) dX9_harmIn_21 (by decide) (fun c3 => ?_) (fun c3 => ?_)
      · have K := K.1 c3
        refine zi_iconst (v := 0) dX9_harmIn_28 (by decide) ?_
        subst K
        exact zi_ireturn dX9_harmIn_29 rfl rfl
      · have K := K.2 c3
        refine zi_iconst (v := 3) dX9_harmIn_24 (by decide) ?_
        refine zi_goto (tgt := 29) dX9_harmIn_25 (by decide) ?_
        subst K
        exact zi_ireturn dX9_harmIn_29 rfl rfl
  · have K := K.2 c1
    refine zi_iload_n dX9_harmIn_5 rfl rfl ?_
    refine zi_bipush (v := 10) dX9_harmIn_6 (by decide) ?_
    refine zi_icmp_lt (tgt := 13) dX9_harmIn_8 (by decide) (fun c4 => ?_) (fun c4 => ?_)
    · have K := K.1 c4
      refine zi_iload_n dX9_harmIn_13 rfl rfl ?_
      refine zi_iconst (v := 3) dX9_harmIn_14 (by decide) ?_
      refine zi_icmp_ne (tgt := 28) dX9_harmIn_15 (by decide) (fun c5 => ?_) (fun c5 => ?_)
      · have K := K.1 c5
        refine zi_iconst (v := 0) dX9_harmIn_28 (by decide) ?_
        subst K
        exact zi_ireturn dX9_harmIn_29 rfl rfl
      · have K := K.2 c5
        refine zi_iload_n dX9_harmIn_18 rfl rfl ?_
        refine zi_bipush (v := 6) dX9_harmIn_19 (by decide) ?_
        refine zi_icmp_lt (tgt := 28) dX9_harmIn_21 (by decide) (fun c6 => ?_) (fun c6 => ?_)
        · have K := K.1 c6
          refine zi_iconst (v := 0) dX9_harmIn_28 (by decide) ?_
          subst K
          exact zi_ireturn dX9_harmIn_29 rfl rfl
        · have K := K.2 c6
          refine zi_iconst (v := 3) dX9_harmIn_24 (by decide) ?_
          refine zi_goto (tgt := 29) dX9_harmIn_25 (by decide) ?_
          subst K
          exact zi_ireturn dX9_harmIn_29 rfl rfl
    · have K := K.2 c4
      refine zi_iconst (v := 2) dX9_harmIn_11 (by decide) ?_
      subst K
      exact zi_ireturn dX9_harmIn_12 rfl rfl
set_option maxRecDepth 100000 in
theorem tX8_delayInNettles_0 {G : zG} {d b : Nat} {I : Nat → Nat → Int32} {L : Nat → Nat → Int64} {R : zR}  {t : Nat}
    (K : R = (some (.int 0), zh b I L)) :
    zA G d mX8_delayInNettles 0 [some (.ref t)] [] (zh b I L) R := by
  refine zi_iconst (v := 0) dX8_delayInNettles_0 (by decide) ?_
  subst K
  exact zi_ireturn dX8_delayInNettles_1 rfl rfl
set_option maxRecDepth 100000 in
theorem tX8_felt_0 {G : zG} {d b : Nat} {I : Nat → Nat → Int32} {L : Nat → Nat → Int64} {R : zR} {x0 : Int32}
    (K : ((¬ x0 = 3 → R = (some (.int x0), zh b I L)) ∧ (x0 = 3 → R = (some (.int 0), zh b I L)))) :
    zA G d mX8_felt 0 [some (.int x0)] [] (zh b I L) R := by
  refine zi_iload_n dX8_felt_0 rfl rfl ?_
  refine zi_iconst (v := 3) dX8_felt_1 (by decide) ?_
  refine zi_icmp_ne (tgt := 9) dX8_felt_2 (by decide) (fun c1 => ?_) (fun c1 => ?_)
  · have K := K.1 c1
    refine zi_iload_n dX8_felt_9 rfl rfl ?_
    subst K
    exact zi_ireturn dX8_felt_10 rfl rfl
  · have K := K.2 c1
    refine zi_iconst (v := 0) dX8_felt_5 (by decide) ?_
    refine zi_goto (tgt := 10) dX8_felt_6 (by decide) ?_
    subst K
    exact zi_ireturn dX8_felt_10 rfl rfl
