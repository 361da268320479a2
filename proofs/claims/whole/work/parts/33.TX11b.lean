/-! rows by program: X11_hurt, X11_heal, X11_waits, X11_drawn, X11_part, X11_image, X11_from, X11_status, X11_count, X11_digest, X11_setFraction, X11_amountOf, X11_downAt, X11_costOfFall, X11_runnerInPlace, X11_anyMeetWhenApart, X11_harmOfAll, X11_wearSlopes, X11_commonDivisor -/
set_option maxRecDepth 100000 in
theorem tX11_hurt_0 {G : zG} {d b : Nat} {I : Nat → Nat → Int32} {L : Nat → Nat → Int64} {R : zR} {x1 : Int32} (hb : zbl b) (hR : zR0 R)
    (K : (((0 ≤ x1 ∧ x1 ≤ 3) → (((I b 3) < 8 → (vp_in (I b 3) 8 ∧ (∀ I4 : Nat → Nat → Int32, I4 = (zup I (b + 7) (zx (I b 3)) x1) → R = (some (.int ((zup I4 b 3 (((zup I (b + 7) (zx (I b 3)) x1) b 3) + 1)) b 3)), zh b (zup I4 b 3 (((zup I (b + 7) (zx (I b 3)) x1) b 3) + 1)) L)))) ∧ (¬ (I b 3) < 8 → (∃ (r5 : Int32) (I6 : Nat → Nat → Int32), zCall d mX11_refuseFull [.ref 0] (zh b I L) (some (.int r5), zh b I6 L) ∧ R = (some (.int r5), zh b I6 L))))) ∧ (¬ (0 ≤ x1 ∧ x1 ≤ 3) → (∃ (r8 : Int32) (I9 : Nat → Nat → Int32), zCall d mX11_refuseBad [.ref 0, .int (-2)] (zh b I L) (some (.int r8), zh b I9 L) ∧ R = (some (.int r8), zh b I9 L))))) :
    zA G (d + 1) mX11_hurt 0 [some (.ref 0), some (.int x1)] [] (zh b I L) R := by
  refine zi_iload_n dX11_hurt_0 rfl rfl ?_
  refine zi_iconst (v := 0) dX11_hurt_1 (by decide) ?_
  refine zi_iconst (v := 3) dX11_hurt_2 (by decide) ?_
  refine zi_callS (N := mX11_within) (av := [.int x1, .int 0, .int 3]) (st := []) (R1 := (some (.int (zb (0 ≤ x1 ∧ x1 ≤ 3))), zh b I L)) dX11_hurt_3 okX11_within u_294 u_295 arX11_within rfl (Nat.le_of_ble_eq_true rfl) (kX11_within _ _ _) hR ?_
  show zA G (d + 1) mX11_hurt 6 [some (.ref 0), some (.int x1)] [.int (zb (0 ≤ x1 ∧ x1 ≤ 3))] (zh b I L) R
  refine zi_if_ne (tgt := 16) dX11_hurt_6 (by decide) (fun c1 => ?_) (fun c1 => ?_)
  · have K := K.1 (zb_1 c1)
    refine zi_aload_n dX11_hurt_16 rfl rfl ?_
    refine zg_getF (k := 0) (v := .ref b) dX11_hurt_17 zc11 rfl (Nat.le_of_ble_eq_true rfl) (Nat.le_of_ble_eq_true rfl) u_244 rfl (rfl) ?_
    refine zg_getI (k := 3) dX11_hurt_20 zc4 hb.hl.sh hb.hl.l0 (Nat.le_of_ble_eq_true rfl) u_51 rfl ?_
    refine zi_bipush (v := 8) dX11_hurt_23 (by decide) ?_
    refine zi_icmp_lt (tgt := 33) dX11_hurt_25 (by decide) (fun c2 => ?_) (fun c2 => ?_)
    · have K := K.1 c2
      refine zi_aload_n dX11_hurt_33 rfl rfl ?_
      refine zg_getF (k := 0) (v := .ref b) dX11_hurt_34 zc11 rfl (Nat.le_of_ble_eq_true rfl) (Nat.le_of_ble_eq_true rfl) u_244 rfl (rfl) ?_
      refine zg_getF (k := 11) (v := .ref (b + 7)) dX11_hurt_37 zc4 hb.hl.sh hb.hl.l0 (Nat.le_of_ble_eq_true rfl) u_78 rfl (hb.hl.f11) ?_
      refine zi_aload_n dX11_hurt_40 rfl rfl ?_
      refine zg_getF (k := 0) (v := .ref b) dX11_hurt_41 zc11 rfl (Nat.le_of_ble_eq_true rfl) (Nat.le_of_ble_eq_true rfl) u_244 rfl (rfl) ?_
      refine zg_getI (k := 3) dX11_hurt_44 zc4 hb.hl.sh hb.hl.l0 (Nat.le_of_ble_eq_true rfl) u_51 rfl ?_
      refine zi_iload_n dX11_hurt_47 rfl rfl ?_
      have o3 := K.1
      have K := K.2
      refine zg_iastore dX11_hurt_48 (hb.hl.s7) (hb.hl.lt 7 (Nat.le_of_ble_eq_true rfl)) o3 ?_
      refine zi_aload_n dX11_hurt_49 rfl rfl ?_
      refine zg_getF (k := 0) (v := .ref b) dX11_hurt_50 zc11 rfl (Nat.le_of_ble_eq_true rfl) (Nat.le_of_ble_eq_true rfl) u_244 rfl (rfl) ?_
      refine zi_dup dX11_hurt_53 rfl ?_
      refine zg_getI (k := 3) dX11_hurt_54 zc4 hb.hl.sh hb.hl.l0 (Nat.le_of_ble_eq_true rfl) u_51 rfl ?_
      refine zi_iconst (v := 1) dX11_hurt_57 (by decide) ?_
      refine zi_iadd dX11_hurt_58 ?_
      refine zi_name (fun I4 hI4 => ?_)
      have K := K I4 hI4
      refine zg_putI (k := 3) dX11_hurt_59 zc4 hb.hl.sh hb.hl.l0 (Nat.le_of_ble_eq_true rfl) u_51 rfl rfl ?_
      refine zi_aload_n dX11_hurt_62 rfl rfl ?_
      refine zg_getF (k := 0) (v := .ref b) dX11_hurt_63 zc11 rfl (Nat.le_of_ble_eq_true rfl) (Nat.le_of_ble_eq_true rfl) u_244 rfl (rfl) ?_
      refine zg_getI (k := 3) dX11_hurt_66 zc4 hb.hl.sh hb.hl.l0 (Nat.le_of_ble_eq_true rfl) u_51 rfl ?_
      subst K
      exact zi_ireturn dX11_hurt_69 rfl rfl
    · have K := K.2 c2
      refine zi_aload_n dX11_hurt_28 rfl rfl ?_
      obtain ⟨r5, I6, h7, K⟩ := K
      refine zi_callV (N := mX11_refuseFull) (av := []) (st := []) (R1 := (some (.int r5), zh b I6 L)) dX11_hurt_29 okX11_refuseFull u_325 u_327 s_1 zc11 (rfl) (Nat.le_of_ble_eq_true rfl) arX11_refuseFull rfl (Nat.le_of_ble_eq_true rfl) (h7) hR ?_
      show zA G (d + 1) mX11_hurt 32 [some (.ref 0), some (.int x1)] [.int r5] (zh b I6 L) R
      subst K
      exact zi_ireturn dX11_hurt_32 rfl rfl
  · have K := K.2 (zb_0 c1)
    refine zi_aload_n dX11_hurt_9 rfl rfl ?_
    refine zi_bipush (v := (-2)) dX11_hurt_10 (by decide) ?_
    obtain ⟨r8, I9, h10, K⟩ := K
    refine zi_callV (N := mX11_refuseBad) (av := [.int (-2)]) (st := []) (R1 := (some (.int r8), zh b I9 L)) dX11_hurt_12 okX11_refuseBad u_297 u_299 s_0 zc11 (rfl) (Nat.le_of_ble_eq_true rfl) arX11_refuseBad rfl (Nat.le_of_ble_eq_true rfl) (h10) hR ?_
    show zA G (d + 1) mX11_hurt 15 [some (.ref 0), some (.int x1)] [.int r8] (zh b I9 L) R
    subst K
    exact zi_ireturn dX11_hurt_15 rfl rfl
set_option maxRecDepth 100000 in
theorem tX11_heal_0 {G : zG} {d b : Nat} {I : Nat → Nat → Int32} {L : Nat → Nat → Int64} {R : zR}  (hb : zbl b)
    (K : R = (some (.int (I b 3)), zh b (zup I b 3 0) L)) :
    zA G d mX11_heal 0 [some (.ref 0), none] [] (zh b I L) R := by
  refine zi_aload_n dX11_heal_0 rfl rfl ?_
  refine zg_getF (k := 0) (v := .ref b) dX11_heal_1 zc11 rfl (Nat.le_of_ble_eq_true rfl) (Nat.le_of_ble_eq_true rfl) u_244 rfl (rfl) ?_
  refine zg_getI (k := 3) dX11_heal_4 zc4 hb.hl.sh hb.hl.l0 (Nat.le_of_ble_eq_true rfl) u_51 rfl ?_
  refine zi_istore_n (ls' := [some (.ref 0), some (.int (I b 3))]) dX11_heal_7 rfl (by decide) rfl ?_
  refine zi_aload_n dX11_heal_8 rfl rfl ?_
  refine zg_getF (k := 0) (v := .ref b) dX11_heal_9 zc11 rfl (Nat.le_of_ble_eq_true rfl) (Nat.le_of_ble_eq_true rfl) u_244 rfl (rfl) ?_
  refine zi_iconst (v := 0) dX11_heal_12 (by decide) ?_
  refine zg_putI (k := 3) dX11_heal_13 zc4 hb.hl.sh hb.hl.l0 (Nat.le_of_ble_eq_true rfl) u_51 rfl rfl ?_
  refine zi_iload_n dX11_heal_16 rfl rfl ?_
  subst K
  exact zi_ireturn dX11_heal_17 rfl rfl
set_option maxRecDepth 100000 in
theorem tX11_waits_0 {G : zG} {d b : Nat} {I : Nat → Nat → Int32} {L : Nat → Nat → Int64} {R : zR} {x1 : Int32} {x2 : Int32} (hb : zbl b) (hR : zR0 R)
    (K : ((¬ (1 ≤ x1 ∧ x1 ≤ 3) → (∃ (r2 : Int32) (I3 : Nat → Nat → Int32), zCall (d + 1) mX11_refuseBad [.ref 0, .int (-10)] (zh b I L) (some (.int r2), zh b I3 L) ∧ R = (some (.int r2), zh b I3 L))) ∧ ((1 ≤ x1 ∧ x1 ≤ 3) → (((1 ≤ x2 ∧ x2 ≤ 99) → (∃ (r6 : Int32), zCall (d + 1) mX4_mostHurt [.ref b] (zh b I L) (some (.int r6), zh b I L) ∧ ((r6 ≤ x1 → (∃ (I9 : Nat → Nat → Int32), zCall (d + 1) mJ7_fill_53178 [.ref 55, .int 0] (zh b I L) (none, zh b I9 L) ∧ zA G (d + 2) mX11_waits 63 [some (.ref 0), some (.int x1), some (.int x2), some (.int 0), some (.int 0), some (.int 0), some (.int 0), none, none, none] [] (zh b I9 L) R)) ∧ (¬ r6 ≤ x1 → (∃ (r11 : Int32) (I12 : Nat → Nat → Int32), zCall (d + 1) mX11_refuseNo [.ref 0, .int (-20)] (zh b I L) (some (.int r11), zh b I12 L) ∧ R = (some (.int r11), zh b I12 L)))))) ∧ (¬ (1 ≤ x2 ∧ x2 ≤ 99) → (∃ (r14 : Int32) (I15 : Nat → Nat → Int32), zCall (d + 1) mX11_refuseBad [.ref 0, .int (-10)] (zh b I L) (some (.int r14), zh b I15 L) ∧ R = (some (.int r14), zh b I15 L))))))) :
    zA G (d + 2) mX11_waits 0 [some (.ref 0), some (.int x1), some (.int x2), none, none, none, none, none, none, none] [] (zh b I L) R := by
  refine zi_iload_n dX11_waits_0 rfl rfl ?_
  refine zi_iconst (v := 1) dX11_waits_1 (by decide) ?_
  refine zi_iconst (v := 3) dX11_waits_2 (by decide) ?_
  refine zi_callS (N := mX11_within) (av := [.int x1, .int 1, .int 3]) (st := []) (R1 := (some (.int (zb (1 ≤ x1 ∧ x1 ≤ 3))), zh b I L)) dX11_waits_3 okX11_within u_294 u_295 arX11_within rfl (Nat.le_of_ble_eq_true rfl) (kX11_within _ _ _) hR ?_
  show zA G (d + 2) mX11_waits 6 [some (.ref 0), some (.int x1), some (.int x2), none, none, none, none, none, none, none] [.int (zb (1 ≤ x1 ∧ x1 ≤ 3))] (zh b I L) R
  refine zi_if_eq (tgt := 19) dX11_waits_6 (by decide) (fun c1 => ?_) (fun c1 => ?_)
  · have K := K.1 (zb_0 c1)
    refine zi_aload_n dX11_waits_19 rfl rfl ?_
    refine zi_bipush (v := (-10)) dX11_waits_20 (by decide) ?_
    obtain ⟨r2, I3, h4, K⟩ := K
    refine zi_callV (N := mX11_refuseBad) (av := [.int (-10)]) (st := []) (R1 := (some (.int r2), zh b I3 L)) dX11_waits_22 okX11_refuseBad u_297 u_299 s_0 zc11 (rfl) (Nat.le_of_ble_eq_true rfl) arX11_refuseBad rfl (Nat.le_of_ble_eq_true rfl) (h4) hR ?_
    show zA G (d + 2) mX11_waits 25 [some (.ref 0), some (.int x1), some (.int x2), none, none, none, none, none, none, none] [.int r2] (zh b I3 L) R
    subst K
    exact zi_ireturn dX11_waits_25 rfl rfl
  · have K := K.2 (zb_1 c1)
    refine zi_iload_n dX11_waits_9 rfl rfl ?_
    refine zi_iconst (v := 1) dX11_waits_10 (by decide) ?_
    refine zi_bipush (v := 99) dX11_waits_11 (by decide) ?_
    refine zi_callS (N := mX11_within) (av := [.int x2, .int 1, .int 99]) (st := []) (R1 := (some (.int (zb (1 ≤ x2 ∧ x2 ≤ 99))), zh b I L)) dX11_waits_13 okX11_within u_294 u_295 arX11_within rfl (Nat.le_of_ble_eq_true rfl) (kX11_within _ _ _) hR ?_
    show zA G (d + 2) mX11_waits 16 [some (.ref 0), some (.int x1), some (.int x2), none, none, none, none, none, none, none] [.int (zb (1 ≤ x2 ∧ x2 ≤ 99))] (zh b I L) R
    refine zi_if_ne (tgt := 26) dX11_waits_16 (by decide) (fun c5 => ?_) (fun c5 => ?_)
    · have K := K.1 (zb_1 c5)
      refine zi_aload_n dX11_waits_26 rfl rfl ?_
      refine zg_getF (k := 0) (v := .ref b) dX11_waits_27 zc11 rfl (Nat.le_of_ble_eq_true rfl) (Nat.le_of_ble_eq_true rfl) u_244 rfl (rfl) ?_
      obtain ⟨r6, h7, K⟩ := K
      refine zi_callV (N := mX4_mostHurt) (av := []) (st := []) (R1 := (some (.int r6), zh b I L)) dX11_waits_30 okX4_mostHurt u_732 u_733 u_734 zc4 (hb.hl.sh) hb.hl.l0 arX4_mostHurt rfl (Nat.le_of_ble_eq_true rfl) (h7) hR ?_
      show zA G (d + 2) mX11_waits 33 [some (.ref 0), some (.int x1), some (.int x2), none, none, none, none, none, none, none] [.int r6] (zh b I L) R
      refine zi_iload_n dX11_waits_33 rfl rfl ?_
      refine zi_icmp_le (tgt := 44) dX11_waits_34 (by decide) (fun c8 => ?_) (fun c8 => ?_)
      · have K := K.1 c8
        refine zi_aload_n dX11_waits_44 rfl rfl ?_
        refine zg_getF (k := 9) (v := .ref 55) dX11_waits_45 zc11 rfl (Nat.le_of_ble_eq_true rfl) (Nat.le_of_ble_eq_true rfl) u_253 rfl (rfl) ?_
        refine zi_iconst (v := 0) dX11_waits_48 (by decide) ?_
        obtain ⟨I9, h10, K⟩ := K
        refine zi_callS (N := mJ7_fill_53178) (av := [.ref 55, .int 0]) (st := []) (R1 := (none, zh b I9 L)) dX11_waits_49 okJ7_fill_53178 u_739 u_242 arJ7_fill_53178 rfl (Nat.le_of_ble_eq_true rfl) (h10) hR ?_
        show zA G (d + 2) mX11_waits 52 [some (.ref 0), some (.int x1), some (.int x2), none, none, none, none, none, none, none] [] (zh b I9 L) R
        refine zi_iconst (v := 0) dX11_waits_52 (by decide) ?_
        refine zi_istore_n (ls' := [some (.ref 0), some (.int x1), some (.int x2), some (.int 0), none, none, none, none, none, none]) dX11_waits_53 rfl (by decide) rfl ?_
        refine zi_iconst (v := 0) dX11_waits_54 (by decide) ?_
        refine zi_istore (ls' := [some (.ref 0), some (.int x1), some (.int x2), some (.int 0), some (.int 0), none, none, none, none, none]) dX11_waits_55 (by decide) rfl ?_
        refine zi_iconst (v := 0) dX11_waits_57 (by decide) ?_
        refine zi_istore (ls' := [some (.ref 0), some (.int x1), some (.int x2), some (.int 0), some (.int 0), some (.int 0), none, none, none, none]) dX11_waits_58 (by decide) rfl ?_
        refine zi_iconst (v := 0) dX11_waits_60 (by decide) ?_
        refine zi_istore (ls' := [some (.ref 0), some (.int x1), some (.int x2), some (.int 0), some (.int 0), some (.int 0), some (.int 0), none, none, none]) dX11_waits_61 (by decide) rfl ?_
        exact K
      · have K := K.2 c8
        refine zi_aload_n dX11_waits_37 rfl rfl ?_
        refine zi_bipush (v := (-20)) dX11_waits_38 (by decide) ?_
        obtain ⟨r11, I12, h13, K⟩ := K
        refine zi_callV (N := mX11_refuseNo) (av := [.int (-20)]) (st := []) (R1 := (some (.int r11), zh b I12 L)) dX11_waits_40 okX11_refuseNo u_694 u_696 s_19 zc11 (rfl) (Nat.le_of_ble_eq_true rfl) arX11_refuseNo rfl (Nat.le_of_ble_eq_true rfl) (h13) hR ?_
        show zA G (d + 2) mX11_waits 43 [some (.ref 0), some (.int x1), some (.int x2), none, none, none, none, none, none, none] [.int r11] (zh b I12 L) R
        subst K
        exact zi_ireturn dX11_waits_43 rfl rfl
    · have K := K.2 (zb_0 c5)
      refine zi_aload_n dX11_waits_19 rfl rfl ?_
      refine zi_bipush (v := (-10)) dX11_waits_20 (by decide) ?_
      obtain ⟨r14, I15, h16, K⟩ := K
      refine zi_callV (N := mX11_refuseBad) (av := [.int (-10)]) (st := []) (R1 := (some (.int r14), zh b I15 L)) dX11_waits_22 okX11_refuseBad u_297 u_299 s_0 zc11 (rfl) (Nat.le_of_ble_eq_true rfl) arX11_refuseBad rfl (Nat.le_of_ble_eq_true rfl) (h16) hR ?_
      show zA G (d + 2) mX11_waits 25 [some (.ref 0), some (.int x1), some (.int x2), none, none, none, none, none, none, none] [.int r14] (zh b I15 L) R
      subst K
      exact zi_ireturn dX11_waits_25 rfl rfl
set_option maxRecDepth 100000 in
theorem tX11_waits_63 {G : zG} {d b : Nat} {I : Nat → Nat → Int32} {L : Nat → Nat → Int64} {R : zR} {x1 : Int32} {x2 : Int32} {x3 : Int32} {x4 : Int32} {x5 : Int32} {x6 : Int32} (hb : zbl b) (hR : zR0 R)
    (K : (((I b 3) ≤ x6 → R = (some (.int x5), zh b I L)) ∧ (¬ (I b 3) ≤ x6 → (vp_in x6 8 ∧ (¬ x1 = 0 ∧ (vp_in (zrem ((x3 + (if (1 : Int32) < (I (b + 7) (zx x6)) then (I (b + 7) (zx x6)) else 1)) - 1) x1) 3 ∧ zA G (d + 2) mX11_waits 114 [some (.ref 0), some (.int x1), some (.int x2), some (.int x3), some (.int x4), some (.int x5), some (.int x6), some (.int (if (1 : Int32) < (I (b + 7) (zx x6)) then (I (b + 7) (zx x6)) else 1)), some (.int (if x4 < (I 55 (zx (zrem ((x3 + (if (1 : Int32) < (I (b + 7) (zx x6)) then (I (b + 7) (zx x6)) else 1)) - 1) x1))) then (I 55 (zx (zrem ((x3 + (if (1 : Int32) < (I (b + 7) (zx x6)) then (I (b + 7) (zx x6)) else 1)) - 1) x1))) else x4)), some (.int 0)] [] (zh b I L) R)))))) :
    zA G (d + 2) mX11_waits 63 [some (.ref 0), some (.int x1), some (.int x2), some (.int x3), some (.int x4), some (.int x5), some (.int x6), none, none, none] [] (zh b I L) R := by
  refine zi_iload dX11_waits_63 rfl ?_
  refine zi_aload_n dX11_waits_65 rfl rfl ?_
  refine zg_getF (k := 0) (v := .ref b) dX11_waits_66 zc11 rfl (Nat.le_of_ble_eq_true rfl) (Nat.le_of_ble_eq_true rfl) u_244 rfl (rfl) ?_
  refine zg_getI (k := 3) dX11_waits_69 zc4 hb.hl.sh hb.hl.l0 (Nat.le_of_ble_eq_true rfl) u_51 rfl ?_
  refine zi_icmp_ge (tgt := 172) dX11_waits_72 (by decide) (fun c1 => ?_) (fun c1 => ?_)
  · have K := K.1 c1
    refine zi_iload dX11_waits_172 rfl ?_
    subst K
    exact zi_ireturn dX11_waits_174 rfl rfl
  · have K := K.2 c1
    refine zi_iconst (v := 1) dX11_waits_75 (by decide) ?_
    refine zi_aload_n dX11_waits_76 rfl rfl ?_
    refine zg_getF (k := 0) (v := .ref b) dX11_waits_77 zc11 rfl (Nat.le_of_ble_eq_true rfl) (Nat.le_of_ble_eq_true rfl) u_244 rfl (rfl) ?_
    refine zg_getF (k := 11) (v := .ref (b + 7)) dX11_waits_80 zc4 hb.hl.sh hb.hl.l0 (Nat.le_of_ble_eq_true rfl) u_78 rfl (hb.hl.f11) ?_
    refine zi_iload dX11_waits_83 rfl ?_
    have o2 := K.1
    have K := K.2
    refine zg_iaload dX11_waits_85 (hb.hl.s7) (hb.hl.lt 7 (Nat.le_of_ble_eq_true rfl)) o2 ?_
    refine zg_max dX11_waits_86 u_740 (Nat.le_of_ble_eq_true rfl) hR ?_
    refine zi_istore (ls' := [some (.ref 0), some (.int x1), some (.int x2), some (.int x3), some (.int x4), some (.int x5), some (.int x6), some (.int (if (1 : Int32) < (I (b + 7) (zx x6)) then (I (b + 7) (zx x6)) else 1)), none, none]) dX11_waits_89 (by decide) rfl ?_
    refine zi_iload dX11_waits_91 rfl ?_
    refine zi_aload_n dX11_waits_93 rfl rfl ?_
    refine zg_getF (k := 9) (v := .ref 55) dX11_waits_94 zc11 rfl (Nat.le_of_ble_eq_true rfl) (Nat.le_of_ble_eq_true rfl) u_253 rfl (rfl) ?_
    refine zi_iload_n dX11_waits_97 rfl rfl ?_
    refine zi_iload dX11_waits_98 rfl ?_
    refine zi_iadd dX11_waits_100 ?_
    refine zi_iconst (v := 1) dX11_waits_101 (by decide) ?_
    refine zi_isub dX11_waits_102 ?_
    refine zi_iload_n dX11_waits_103 rfl rfl ?_
    have o3 := K.1
    have K := K.2
    refine zi_irem dX11_waits_104 o3 ?_
    have o4 := K.1
    have K := K.2
    refine zg_iaload dX11_waits_105 (rfl) (Nat.le_of_ble_eq_true rfl) o4 ?_
    refine zg_max dX11_waits_106 u_740 (Nat.le_of_ble_eq_true rfl) hR ?_
    refine zi_istore (ls' := [some (.ref 0), some (.int x1), some (.int x2), some (.int x3), some (.int x4), some (.int x5), some (.int x6), some (.int (if (1 : Int32) < (I (b + 7) (zx x6)) then (I (b + 7) (zx x6)) else 1)), some (.int (if x4 < (I 55 (zx (zrem ((x3 + (if (1 : Int32) < (I (b + 7) (zx x6)) then (I (b + 7) (zx x6)) else 1)) - 1) x1))) then (I 55 (zx (zrem ((x3 + (if (1 : Int32) < (I (b + 7) (zx x6)) then (I (b + 7) (zx x6)) else 1)) - 1) x1))) else x4)), none]) dX11_waits_109 (by decide) rfl ?_
    refine zi_iconst (v := 0) dX11_waits_111 (by decide) ?_
    refine zi_istore (ls' := [some (.ref 0), some (.int x1), some (.int x2), some (.int x3), some (.int x4), some (.int x5), some (.int x6), some (.int (if (1 : Int32) < (I (b + 7) (zx x6)) then (I (b + 7) (zx x6)) else 1)), some (.int (if x4 < (I 55 (zx (zrem ((x3 + (if (1 : Int32) < (I (b + 7) (zx x6)) then (I (b + 7) (zx x6)) else 1)) - 1) x1))) then (I 55 (zx (zrem ((x3 + (if (1 : Int32) < (I (b + 7) (zx x6)) then (I (b + 7) (zx x6)) else 1)) - 1) x1))) else x4)), some (.int 0)]) dX11_waits_112 (by decide) rfl ?_
    exact K
set_option maxRecDepth 100000 in
theorem tX11_waits_114 {G : zG} {d b : Nat} {I : Nat → Nat → Int32} {L : Nat → Nat → Int64} {R : zR} {x1 : Int32} {x2 : Int32} {x3 : Int32} {x4 : Int32} {x5 : Int32} {x6 : Int32} {x7 : Int32} {x8 : Int32} {x9 : Int32} (hb : zbl b)
    (K : (vp_in x6 8 ∧ (((I (b + 7) (zx x6)) ≤ x9 → zA G (d + 2) mX11_waits 63 [some (.ref 0), some (.int x1), some (.int x2), some (.int x3), some (.int (x8 + 1)), some (.int (x5 + (x8 - x4))), some (.int (x6 + 1)), none, none, none] [] (zh b I L) R) ∧ (¬ (I (b + 7) (zx x6)) ≤ x9 → (¬ x1 = 0 ∧ (vp_in (zrem x3 x1) 3 ∧ zA G (d + 2) mX11_waits 114 [some (.ref 0), some (.int x1), some (.int x2), some (.int (x3 + 1)), some (.int x4), some (.int x5), some (.int x6), some (.int x7), some (.int x8), some (.int (x9 + 1))] [] (zh b (zup I 55 (zx (zrem x3 x1)) (x8 + x2)) L) R)))))) :
    zA G (d + 2) mX11_waits 114 [some (.ref 0), some (.int x1), some (.int x2), some (.int x3), some (.int x4), some (.int x5), some (.int x6), some (.int x7), some (.int x8), some (.int x9)] [] (zh b I L) R := by
  refine zi_iload dX11_waits_114 rfl ?_
  refine zi_aload_n dX11_waits_116 rfl rfl ?_
  refine zg_getF (k := 0) (v := .ref b) dX11_waits_117 zc11 rfl (Nat.le_of_ble_eq_true rfl) (Nat.le_of_ble_eq_true rfl) u_244 rfl (rfl) ?_
  refine zg_getF (k := 11) (v := .ref (b + 7)) dX11_waits_120 zc4 hb.hl.sh hb.hl.l0 (Nat.le_of_ble_eq_true rfl) u_78 rfl (hb.hl.f11) ?_
  refine zi_iload dX11_waits_123 rfl ?_
  have o1 := K.1
  have K := K.2
  refine zg_iaload dX11_waits_125 (hb.hl.s7) (hb.hl.lt 7 (Nat.le_of_ble_eq_true rfl)) o1 ?_
  refine zi_icmp_ge (tgt := 150) dX11_waits_126 (by decide) (fun c2 => ?_) (fun c2 => ?_)
  · have K := K.1 c2
    refine zi_iload dX11_waits_150 rfl ?_
    refine zi_iload dX11_waits_152 rfl ?_
    refine zi_iload dX11_waits_154 rfl ?_
    refine zi_isub dX11_waits_156 ?_
    refine zi_iadd dX11_waits_157 ?_
    refine zi_istore (ls' := [some (.ref 0), some (.int x1), some (.int x2), some (.int x3), some (.int x4), some (.int (x5 + (x8 - x4))), some (.int x6), some (.int x7), some (.int x8), some (.int x9)]) dX11_waits_158 (by decide) rfl ?_
    refine zi_iload dX11_waits_160 rfl ?_
    refine zi_iconst (v := 1) dX11_waits_162 (by decide) ?_
    refine zi_iadd dX11_waits_163 ?_
    refine zi_istore (ls' := [some (.ref 0), some (.int x1), some (.int x2), some (.int x3), some (.int (x8 + 1)), some (.int (x5 + (x8 - x4))), some (.int x6), some (.int x7), some (.int x8), some (.int x9)]) dX11_waits_164 (by decide) rfl ?_
    refine zi_iinc (v := x6 + 1) (ls' := [some (.ref 0), some (.int x1), some (.int x2), some (.int x3), some (.int (x8 + 1)), some (.int (x5 + (x8 - x4))), some (.int (x6 + 1)), some (.int x7), some (.int x8), some (.int x9)]) dX11_waits_166 rfl (by decide) rfl rfl ?_
    refine zi_goto (tgt := 63) dX11_waits_169 (by decide) ?_
    refine zi_mask [true, true, true, true, true, true, true, false, false, false] rfl ?_
    exact K
  · have K := K.2 c2
    refine zi_aload_n dX11_waits_129 rfl rfl ?_
    refine zg_getF (k := 9) (v := .ref 55) dX11_waits_130 zc11 rfl (Nat.le_of_ble_eq_true rfl) (Nat.le_of_ble_eq_true rfl) u_253 rfl (rfl) ?_
    refine zi_iload_n dX11_waits_133 rfl rfl ?_
    refine zi_iload_n dX11_waits_134 rfl rfl ?_
    have o3 := K.1
    have K := K.2
    refine zi_irem dX11_waits_135 o3 ?_
    refine zi_iload dX11_waits_136 rfl ?_
    refine zi_iload_n dX11_waits_138 rfl rfl ?_
    refine zi_iadd dX11_waits_139 ?_
    have o4 := K.1
    have K := K.2
    refine zg_iastore dX11_waits_140 (rfl) (Nat.le_of_ble_eq_true rfl) o4 ?_
    refine zi_iinc (v := x3 + 1) (ls' := [some (.ref 0), some (.int x1), some (.int x2), some (.int (x3 + 1)), some (.int x4), some (.int x5), some (.int x6), some (.int x7), some (.int x8), some (.int x9)]) dX11_waits_141 rfl (by decide) rfl rfl ?_
    refine zi_iinc (v := x9 + 1) (ls' := [some (.ref 0), some (.int x1), some (.int x2), some (.int (x3 + 1)), some (.int x4), some (.int x5), some (.int x6), some (.int x7), some (.int x8), some (.int (x9 + 1))]) dX11_waits_144 rfl (by decide) rfl rfl ?_
    refine zi_goto (tgt := 114) dX11_waits_147 (by decide) ?_
    exact K
set_option maxRecDepth 100000 in
theorem tX11_drawn_0 {G : zG} {d b : Nat} {I : Nat → Nat → Int32} {L : Nat → Nat → Int64} {R : zR} {x1 : Int32} {x2 : Int32} (hb : zbl b) (hR : zR0 R)
    (K : ((¬ (0 ≤ x1 ∧ x1 ≤ 999999) → (∃ (r2 : Int32) (I3 : Nat → Nat → Int32), zCall (d + 5) mX11_refuseBad [.ref 0, .int (-2)] (zh b I L) (some (.int r2), zh b I3 L) ∧ R = (some (.int r2), zh b I3 L))) ∧ ((0 ≤ x1 ∧ x1 ≤ 999999) → (((0 ≤ x2 ∧ x2 ≤ 9) → (∃ (I6 : Nat → Nat → Int32), zCall (d + 5) mX10_followAll [.ref 43, .ref b, .ref 37] (zh b I L) (none, zh b I6 L) ∧ zA G (d + 6) mX11_drawn 62 [some (.ref 0), some (.int x1), some (.int x2), some (.long x1.toInt64), none, some (.int ((1 <<< ((I6 b 2) &&& 31)) - 1)), some (.int 0), none, none] [] (zh b I6 L) R)) ∧ (¬ (0 ≤ x2 ∧ x2 ≤ 9) → (∃ (r8 : Int32) (I9 : Nat → Nat → Int32), zCall (d + 5) mX11_refuseBad [.ref 0, .int (-2)] (zh b I L) (some (.int r8), zh b I9 L) ∧ R = (some (.int r8), zh b I9 L))))))) :
    zA G (d + 6) mX11_drawn 0 [some (.ref 0), some (.int x1), some (.int x2), none, none, none, none, none, none] [] (zh b I L) R := by
  refine zi_iload_n dX11_drawn_0 rfl rfl ?_
  refine zi_iconst (v := 0) dX11_drawn_1 (by decide) ?_
  refine zi_ldcw dX11_drawn_2 u_745 ?_
  refine zi_callS (N := mX11_within) (av := [.int x1, .int 0, .int 999999]) (st := []) (R1 := (some (.int (zb (0 ≤ x1 ∧ x1 ≤ 999999))), zh b I L)) dX11_drawn_5 okX11_within u_294 u_295 arX11_within rfl (Nat.le_of_ble_eq_true rfl) (kX11_within _ _ _) hR ?_
  show zA G (d + 6) mX11_drawn 8 [some (.ref 0), some (.int x1), some (.int x2), none, none, none, none, none, none] [.int (zb (0 ≤ x1 ∧ x1 ≤ 999999))] (zh b I L) R
  refine zi_if_eq (tgt := 21) dX11_drawn_8 (by decide) (fun c1 => ?_) (fun c1 => ?_)
  · have K := K.1 (zb_0 c1)
    refine zi_aload_n dX11_drawn_21 rfl rfl ?_
    refine zi_bipush (v := (-2)) dX11_drawn_22 (by decide) ?_
    obtain ⟨r2, I3, h4, K⟩ := K
    refine zi_callV (N := mX11_refuseBad) (av := [.int (-2)]) (st := []) (R1 := (some (.int r2), zh b I3 L)) dX11_drawn_24 okX11_refuseBad u_297 u_299 s_0 zc11 (rfl) (Nat.le_of_ble_eq_true rfl) arX11_refuseBad rfl (Nat.le_of_ble_eq_true rfl) (h4) hR ?_
    show zA G (d + 6) mX11_drawn 27 [some (.ref 0), some (.int x1), some (.int x2), none, none, none, none, none, none] [.int r2] (zh b I3 L) R
    subst K
    exact zi_ireturn dX11_drawn_27 rfl rfl
  · have K := K.2 (zb_1 c1)
    refine zi_iload_n dX11_drawn_11 rfl rfl ?_
    refine zi_iconst (v := 0) dX11_drawn_12 (by decide) ?_
    refine zi_bipush (v := 9) dX11_drawn_13 (by decide) ?_
    refine zi_callS (N := mX11_within) (av := [.int x2, .int 0, .int 9]) (st := []) (R1 := (some (.int (zb (0 ≤ x2 ∧ x2 ≤ 9))), zh b I L)) dX11_drawn_15 okX11_within u_294 u_295 arX11_within rfl (Nat.le_of_ble_eq_true rfl) (kX11_within _ _ _) hR ?_
    show zA G (d + 6) mX11_drawn 18 [some (.ref 0), some (.int x1), some (.int x2), none, none, none, none, none, none] [.int (zb (0 ≤ x2 ∧ x2 ≤ 9))] (zh b I L) R
    refine zi_if_ne (tgt := 28) dX11_drawn_18 (by decide) (fun c5 => ?_) (fun c5 => ?_)
    · have K := K.1 (zb_1 c5)
      refine zi_aload_n dX11_drawn_28 rfl rfl ?_
      refine zg_getF (k := 5) (v := .ref 43) dX11_drawn_29 zc11 rfl (Nat.le_of_ble_eq_true rfl) (Nat.le_of_ble_eq_true rfl) u_249 rfl (rfl) ?_
      refine zi_aload_n dX11_drawn_32 rfl rfl ?_
      refine zg_getF (k := 0) (v := .ref b) dX11_drawn_33 zc11 rfl (Nat.le_of_ble_eq_true rfl) (Nat.le_of_ble_eq_true rfl) u_244 rfl (rfl) ?_
      refine zi_aload_n dX11_drawn_36 rfl rfl ?_
      refine zg_getF (k := 4) (v := .ref 37) dX11_drawn_37 zc11 rfl (Nat.le_of_ble_eq_true rfl) (Nat.le_of_ble_eq_true rfl) u_248 rfl (rfl) ?_
      obtain ⟨I6, h7, K⟩ := K
      refine zi_callV (N := mX10_followAll) (av := [.ref b, .ref 37]) (st := []) (R1 := (none, zh b I6 L)) dX11_drawn_40 okX10_followAll u_609 u_610 u_611 zc10 (rfl) (Nat.le_of_ble_eq_true rfl) arX10_followAll rfl (Nat.le_of_ble_eq_true rfl) (h7) hR ?_
      show zA G (d + 6) mX11_drawn 43 [some (.ref 0), some (.int x1), some (.int x2), none, none, none, none, none, none] [] (zh b I6 L) R
      refine zi_iload_n dX11_drawn_43 rfl rfl ?_
      refine zi_i2l dX11_drawn_44 ?_
      refine zi_lstore_n (ls' := [some (.ref 0), some (.int x1), some (.int x2), some (.long x1.toInt64), none, none, none, none, none]) dX11_drawn_45 rfl (by decide) rfl ?_
      refine zi_iconst (v := 1) dX11_drawn_46 (by decide) ?_
      refine zi_aload_n dX11_drawn_47 rfl rfl ?_
      refine zg_getF (k := 0) (v := .ref b) dX11_drawn_48 zc11 rfl (Nat.le_of_ble_eq_true rfl) (Nat.le_of_ble_eq_true rfl) u_244 rfl (rfl) ?_
      refine zg_getI (k := 2) dX11_drawn_51 zc4 hb.hl.sh hb.hl.l0 (Nat.le_of_ble_eq_true rfl) u_48 rfl ?_
      refine zi_ishl dX11_drawn_54 ?_
      refine zi_iconst (v := 1) dX11_drawn_55 (by decide) ?_
      refine zi_isub dX11_drawn_56 ?_
      refine zi_istore (ls' := [some (.ref 0), some (.int x1), some (.int x2), some (.long x1.toInt64), none, some (.int ((1 <<< ((I6 b 2) &&& 31)) - 1)), none, none, none]) dX11_drawn_57 (by decide) rfl ?_
      refine zi_iconst (v := 0) dX11_drawn_59 (by decide) ?_
      refine zi_istore (ls' := [some (.ref 0), some (.int x1), some (.int x2), some (.long x1.toInt64), none, some (.int ((1 <<< ((I6 b 2) &&& 31)) - 1)), some (.int 0), none, none]) dX11_drawn_60 (by decide) rfl ?_
      exact K
    · have K := K.2 (zb_0 c5)
      refine zi_aload_n dX11_drawn_21 rfl rfl ?_
      refine zi_bipush (v := (-2)) dX11_drawn_22 (by decide) ?_
      obtain ⟨r8, I9, h10, K⟩ := K
      refine zi_callV (N := mX11_refuseBad) (av := [.int (-2)]) (st := []) (R1 := (some (.int r8), zh b I9 L)) dX11_drawn_24 okX11_refuseBad u_297 u_299 s_0 zc11 (rfl) (Nat.le_of_ble_eq_true rfl) arX11_refuseBad rfl (Nat.le_of_ble_eq_true rfl) (h10) hR ?_
      show zA G (d + 6) mX11_drawn 27 [some (.ref 0), some (.int x1), some (.int x2), none, none, none, none, none, none] [.int r8] (zh b I9 L) R
      subst K
      exact zi_ireturn dX11_drawn_27 rfl rfl
set_option maxRecDepth 100000 in
theorem tX11_drawn_62 {G : zG} {d b : Nat} {I : Nat → Nat → Int32} {L : Nat → Nat → Int64} {R : zR} {x1 : Int32} {x2 : Int32} {x3 : Int64} {x5 : Int32} {x6 : Int32} (hR : zR0 R)
    (K : ((x2 ≤ x6 → (∃ (r2 : Int32), zCall (d + 5) mJ6_bitCount_0f7a4 [.int x5] (zh b I L) (some (.int r2), zh b I L) ∧ R = (some (.int r2), zh b I L))) ∧ (¬ x2 ≤ x6 → zA G (d + 6) mX11_drawn 71 [some (.ref 0), some (.int x1), some (.int x2), some (.long x3), none, some (.int x5), some (.int x6), some (.int 0), none] [] (zh b I L) R))) :
    zA G (d + 6) mX11_drawn 62 [some (.ref 0), some (.int x1), some (.int x2), some (.long x3), none, some (.int x5), some (.int x6), none, none] [] (zh b I L) R := by
  refine zi_iload dX11_drawn_62 rfl ?_
  refine zi_iload_n dX11_drawn_64 rfl rfl ?_
  refine zi_icmp_ge (tgt := 179) dX11_drawn_65 (by decide) (fun c1 => ?_) (fun c1 => ?_)
  · have K := K.1 c1
    refine zi_iload dX11_drawn_179 rfl ?_
    obtain ⟨r2, h3, K⟩ := K
    refine zi_callS (N := mJ6_bitCount_0f7a4) (av := [.int x5]) (st := []) (R1 := (some (.int r2), zh b I L)) dX11_drawn_181 okJ6_bitCount_0f7a4 u_676 u_677 arJ6_bitCount_0f7a4 rfl (Nat.le_of_ble_eq_true rfl) (h3) hR ?_
    show zA G (d + 6) mX11_drawn 184 [some (.ref 0), some (.int x1), some (.int x2), some (.long x3), none, some (.int x5), some (.int x6), none, none] [.int r2] (zh b I L) R
    subst K
    exact zi_ireturn dX11_drawn_184 rfl rfl
  · have K := K.2 c1
    refine zi_iconst (v := 0) dX11_drawn_68 (by decide) ?_
    refine zi_istore (ls' := [some (.ref 0), some (.int x1), some (.int x2), some (.long x3), none, some (.int x5), some (.int x6), some (.int 0), none]) dX11_drawn_69 (by decide) rfl ?_
    exact K
set_option maxRecDepth 100000 in
theorem tX11_drawn_71 {G : zG} {d b : Nat} {I : Nat → Nat → Int32} {L : Nat → Nat → Int64} {R : zR} {x1 : Int32} {x2 : Int32} {x3 : Int64} {x5 : Int32} {x6 : Int32} {x7 : Int32} (hb : zbl b)
    (K : (((I b 2) ≤ x7 → zA G (d + 6) mX11_drawn 62 [some (.ref 0), some (.int x1), some (.int x2), some (.long x3), none, some (.int x5), some (.int (x6 + 1)), none, none] [] (zh b I L) R) ∧ (¬ (I b 2) ≤ x7 → zA G (d + 6) mX11_drawn 86 [some (.ref 0), some (.int x1), some (.int x2), some (.long x3), none, some (.int x5), some (.int x6), some (.int x7), some (.int 0)] [] (zh b I L) R))) :
    zA G (d + 6) mX11_drawn 71 [some (.ref 0), some (.int x1), some (.int x2), some (.long x3), none, some (.int x5), some (.int x6), some (.int x7), none] [] (zh b I L) R := by
  refine zi_iload dX11_drawn_71 rfl ?_
  refine zi_aload_n dX11_drawn_73 rfl rfl ?_
  refine zg_getF (k := 0) (v := .ref b) dX11_drawn_74 zc11 rfl (Nat.le_of_ble_eq_true rfl) (Nat.le_of_ble_eq_true rfl) u_244 rfl (rfl) ?_
  refine zg_getI (k := 2) dX11_drawn_77 zc4 hb.hl.sh hb.hl.l0 (Nat.le_of_ble_eq_true rfl) u_48 rfl ?_
  refine zi_icmp_ge (tgt := 173) dX11_drawn_80 (by decide) (fun c1 => ?_) (fun c1 => ?_)
  · have K := K.1 c1
    refine zi_iinc (v := x6 + 1) (ls' := [some (.ref 0), some (.int x1), some (.int x2), some (.long x3), none, some (.int x5), some (.int (x6 + 1)), some (.int x7), none]) dX11_drawn_173 rfl (by decide) rfl rfl ?_
    refine zi_goto (tgt := 62) dX11_drawn_176 (by decide) ?_
    refine zi_mask [true, true, true, true, true, true, true, false, true] rfl ?_
    exact K
  · have K := K.2 c1
    refine zi_iconst (v := 0) dX11_drawn_83 (by decide) ?_
    refine zi_istore (ls' := [some (.ref 0), some (.int x1), some (.int x2), some (.long x3), none, some (.int x5), some (.int x6), some (.int x7), some (.int 0)]) dX11_drawn_84 (by decide) rfl ?_
    exact K
set_option maxRecDepth 100000 in
theorem tX11_drawn_86 {G : zG} {d b : Nat} {I : Nat → Nat → Int32} {L : Nat → Nat → Int64} {R : zR} {x1 : Int32} {x2 : Int32} {x3 : Int64} {x5 : Int32} {x6 : Int32} {x7 : Int32} {x8 : Int32} (hb : zbl b) (hR : zR0 R)
    (K : (((I b 0) ≤ x8 → zA G (d + 6) mX11_drawn 71 [some (.ref 0), some (.int x1), some (.int x2), some (.long x3), none, some (.int x5), some (.int x6), some (.int (x7 + 1)), none] [] (zh b I L) R) ∧ (¬ (I b 0) ≤ x8 → ((¬ ((x5 >>> (x7 &&& 31)) &&& 1) = 1 → zA G (d + 6) mX11_drawn 71 [some (.ref 0), some (.int x1), some (.int x2), some (.long x3), none, some (.int x5), some (.int x6), some (.int (x7 + 1)), none] [] (zh b I L) R) ∧ (((x5 >>> (x7 &&& 31)) &&& 1) = 1 → (vp_in ((x7 * 9) + x8) 54 ∧ ((0 ≤ (lg_cmp (zremL ((zremL ((x3 * 1103515245) + 12345) 2147483648) / 65536) 40) ((I 45 (zx ((x7 * 9) + x8))).toInt64)) → zA G (d + 6) mX11_drawn 86 [some (.ref 0), some (.int x1), some (.int x2), some (.long (zremL ((x3 * 1103515245) + 12345) 2147483648)), none, some (.int x5), some (.int x6), some (.int x7), some (.int (x8 + 1))] [] (zh b I L) R) ∧ (¬ 0 ≤ (lg_cmp (zremL ((zremL ((x3 * 1103515245) + 12345) 2147483648) / 65536) 40) ((I 45 (zx ((x7 * 9) + x8))).toInt64)) → zA G (d + 6) mX11_drawn 86 [some (.ref 0), some (.int x1), some (.int x2), some (.long (zremL ((x3 * 1103515245) + 12345) 2147483648)), none, some (.int (x5 ^^^ (1 <<< (x7 &&& 31)))), some (.int x6), some (.int x7), some (.int (x8 + 1))] [] (zh b I L) R)))))))) :
    zA G (d + 6) mX11_drawn 86 [some (.ref 0), some (.int x1), some (.int x2), some (.long x3), none, some (.int x5), some (.int x6), some (.int x7), some (.int x8)] [] (zh b I L) R := by
  refine zi_iload dX11_drawn_86 rfl ?_
  refine zi_aload_n dX11_drawn_88 rfl rfl ?_
  refine zg_getF (k := 0) (v := .ref b) dX11_drawn_89 zc11 rfl (Nat.le_of_ble_eq_true rfl) (Nat.le_of_ble_eq_true rfl) u_244 rfl (rfl) ?_
  refine zg_getI (k := 0) dX11_drawn_92 zc4 hb.hl.sh hb.hl.l0 (Nat.le_of_ble_eq_true rfl) u_41 rfl ?_
  refine zi_icmp_ge (tgt := 167) dX11_drawn_95 (by decide) (fun c1 => ?_) (fun c1 => ?_)
  · have K := K.1 c1
    refine zi_iinc (v := x7 + 1) (ls' := [some (.ref 0), some (.int x1), some (.int x2), some (.long x3), none, some (.int x5), some (.int x6), some (.int (x7 + 1)), some (.int x8)]) dX11_drawn_167 rfl (by decide) rfl rfl ?_
    refine zi_goto (tgt := 71) dX11_drawn_170 (by decide) ?_
    refine zi_mask [true, true, true, true, true, true, true, true, false] rfl ?_
    exact K
  · have K := K.2 c1
    refine zi_iload dX11_drawn_98 rfl ?_
    refine zi_iload dX11_drawn_100 rfl ?_
    refine zi_ishr dX11_drawn_102 ?_
    refine zi_iconst (v := 1) dX11_drawn_103 (by decide) ?_
    refine zi_iand dX11_drawn_104 ?_
    refine zi_iconst (v := 1) dX11_drawn_105 (by decide) ?_
    refine zi_icmp_ne (tgt := 167) dX11_drawn_106 (by decide) (fun c2 => ?_) (fun c2 => ?_)
    · have K := K.1 c2
      refine zi_iinc (v := x7 + 1) (ls' := [some (.ref 0), some (.int x1), some (.int x2), some (.long x3), none, some (.int x5), some (.int x6), some (.int (x7 + 1)), some (.int x8)]) dX11_drawn_167 rfl (by decide) rfl rfl ?_
      refine zi_goto (tgt := 71) dX11_drawn_170 (by decide) ?_
      refine zi_mask [true, true, true, true, true, true, true, true, false] rfl ?_
      exact K
    · have K := K.2 c2
      refine zi_lload_n dX11_drawn_109 rfl rfl ?_
      refine zi_ldc2 dX11_drawn_110 u_746 ?_
      refine zi_lmul dX11_drawn_113 ?_
      refine zi_ldc2 dX11_drawn_114 u_747 ?_
      refine zi_ladd dX11_drawn_117 ?_
      refine zi_ldc2 dX11_drawn_118 u_748 ?_
      refine zi_lrem dX11_drawn_121 (by decide) ?_
      refine zi_lstore_n (ls' := [some (.ref 0), some (.int x1), some (.int x2), some (.long (zremL ((x3 * 1103515245) + 12345) 2147483648)), none, some (.int x5), some (.int x6), some (.int x7), some (.int x8)]) dX11_drawn_122 rfl (by decide) rfl ?_
      refine zi_lload_n dX11_drawn_123 rfl rfl ?_
      refine zi_ldc2 dX11_drawn_124 u_749 ?_
      refine zi_ldiv dX11_drawn_127 (by decide) ?_
      refine zi_ldc2 dX11_drawn_128 u_671 ?_
      refine zi_lrem dX11_drawn_131 (by decide) ?_
      refine zi_aload_n dX11_drawn_132 rfl rfl ?_
      refine zg_getF (k := 5) (v := .ref 43) dX11_drawn_133 zc11 rfl (Nat.le_of_ble_eq_true rfl) (Nat.le_of_ble_eq_true rfl) u_249 rfl (rfl) ?_
      refine zg_getF (k := 1) (v := .ref 45) dX11_drawn_136 zc10 rfl (Nat.le_of_ble_eq_true rfl) (Nat.le_of_ble_eq_true rfl) u_175 rfl (rfl) ?_
      refine zi_iload dX11_drawn_139 rfl ?_
      refine zi_iload dX11_drawn_141 rfl ?_
      refine zi_callS (N := mX11_onWay) (av := [.int x7, .int x8]) (st := [.ref 45, .long (zremL ((zremL ((x3 * 1103515245) + 12345) 2147483648) / 65536) 40)]) (R1 := (some (.int ((x7 * 9) + x8)), zh b I L)) dX11_drawn_143 okX11_onWay u_557 u_516 arX11_onWay rfl (Nat.le_of_ble_eq_true rfl) (kX11_onWay _ _) hR ?_
      show zA G (d + 6) mX11_drawn 146 [some (.ref 0), some (.int x1), some (.int x2), some (.long (zremL ((x3 * 1103515245) + 12345) 2147483648)), none, some (.int x5), some (.int x6), some (.int x7), some (.int x8)] [.int ((x7 * 9) + x8), .ref 45, .long (zremL ((zremL ((x3 * 1103515245) + 12345) 2147483648) / 65536) 40)] (zh b I L) R
      have o3 := K.1
      have K := K.2
      refine zg_iaload dX11_drawn_146 (rfl) (Nat.le_of_ble_eq_true rfl) o3 ?_
      refine zi_i2l dX11_drawn_147 ?_
      refine zi_lcmp dX11_drawn_148 ?_
      refine zi_if_ge (tgt := 161) dX11_drawn_149 (by decide) (fun c4 => ?_) (fun c4 => ?_)
      · have K := K.1 c4
        refine zi_iinc (v := x8 + 1) (ls' := [some (.ref 0), some (.int x1), some (.int x2), some (.long (zremL ((x3 * 1103515245) + 12345) 2147483648)), none, some (.int x5), some (.int x6), some (.int x7), some (.int (x8 + 1))]) dX11_drawn_161 rfl (by decide) rfl rfl ?_
        refine zi_goto (tgt := 86) dX11_drawn_164 (by decide) ?_
        exact K
      · have K := K.2 c4
        refine zi_iload dX11_drawn_152 rfl ?_
        refine zi_iconst (v := 1) dX11_drawn_154 (by decide) ?_
        refine zi_iload dX11_drawn_155 rfl ?_
        refine zi_ishl dX11_drawn_157 ?_
        refine zi_ixor dX11_drawn_158 ?_
        refine zi_istore (ls' := [some (.ref 0), some (.int x1), some (.int x2), some (.long (zremL ((x3 * 1103515245) + 12345) 2147483648)), none, some (.int (x5 ^^^ (1 <<< (x7 &&& 31)))), some (.int x6), some (.int x7), some (.int x8)]) dX11_drawn_159 (by decide) rfl ?_
        refine zi_iinc (v := x8 + 1) (ls' := [some (.ref 0), some (.int x1), some (.int x2), some (.long (zremL ((x3 * 1103515245) + 12345) 2147483648)), none, some (.int (x5 ^^^ (1 <<< (x7 &&& 31)))), some (.int x6), some (.int x7), some (.int (x8 + 1))]) dX11_drawn_161 rfl (by decide) rfl rfl ?_
        refine zi_goto (tgt := 86) dX11_drawn_164 (by decide) ?_
        exact K
set_option maxRecDepth 100000 in
theorem tX11_part_0 {G : zG} {d b : Nat} {I : Nat → Nat → Int32} {L : Nat → Nat → Int64} {R : zR} {x1 : Int32} (hR : zR0 R)
    (K : (((0 ≤ x1 ∧ x1 ≤ 1) → ((¬ x1 = 0 → R = (some (.long (L 0 11)), zh b I L)) ∧ (x1 = 0 → R = (some (.long (L 0 10)), zh b I L)))) ∧ (¬ (0 ≤ x1 ∧ x1 ≤ 1) → (∃ (r3 : Int32) (I4 : Nat → Nat → Int32), zCall d mX11_refuseBad [.ref 0, .int (-2)] (zh b I L) (some (.int r3), zh b I4 L) ∧ R = (some (.long r3.toInt64), zh b I4 L))))) :
    zA G (d + 1) mX11_part 0 [some (.ref 0), some (.int x1)] [] (zh b I L) R := by
  refine zi_iload_n dX11_part_0 rfl rfl ?_
  refine zi_iconst (v := 0) dX11_part_1 (by decide) ?_
  refine zi_iconst (v := 1) dX11_part_2 (by decide) ?_
  refine zi_callS (N := mX11_within) (av := [.int x1, .int 0, .int 1]) (st := []) (R1 := (some (.int (zb (0 ≤ x1 ∧ x1 ≤ 1))), zh b I L)) dX11_part_3 okX11_within u_294 u_295 arX11_within rfl (Nat.le_of_ble_eq_true rfl) (kX11_within _ _ _) hR ?_
  show zA G (d + 1) mX11_part 6 [some (.ref 0), some (.int x1)] [.int (zb (0 ≤ x1 ∧ x1 ≤ 1))] (zh b I L) R
  refine zi_if_ne (tgt := 17) dX11_part_6 (by decide) (fun c1 => ?_) (fun c1 => ?_)
  · have K := K.1 (zb_1 c1)
    refine zi_iload_n dX11_part_17 rfl rfl ?_
    refine zi_if_ne (tgt := 28) dX11_part_18 (by decide) (fun c2 => ?_) (fun c2 => ?_)
    · have K := K.1 c2
      refine zi_aload_n dX11_part_28 rfl rfl ?_
      refine zg_getL (k := 11) dX11_part_29 zc11 rfl (Nat.le_of_ble_eq_true rfl) (Nat.le_of_ble_eq_true rfl) u_255 rfl ?_
      subst K
      exact zi_lreturn dX11_part_32 rfl
    · have K := K.2 c2
      refine zi_aload_n dX11_part_21 rfl rfl ?_
      refine zg_getL (k := 10) dX11_part_22 zc11 rfl (Nat.le_of_ble_eq_true rfl) (Nat.le_of_ble_eq_true rfl) u_254 rfl ?_
      refine zi_goto (tgt := 32) dX11_part_25 (by decide) ?_
      subst K
      exact zi_lreturn dX11_part_32 rfl
  · have K := K.2 (zb_0 c1)
    refine zi_aload_n dX11_part_9 rfl rfl ?_
    refine zi_bipush (v := (-2)) dX11_part_10 (by decide) ?_
    obtain ⟨r3, I4, h5, K⟩ := K
    refine zi_callV (N := mX11_refuseBad) (av := [.int (-2)]) (st := []) (R1 := (some (.int r3), zh b I4 L)) dX11_part_12 okX11_refuseBad u_297 u_299 s_0 zc11 (rfl) (Nat.le_of_ble_eq_true rfl) arX11_refuseBad rfl (Nat.le_of_ble_eq_true rfl) (h5) hR ?_
    show zA G (d + 1) mX11_part 15 [some (.ref 0), some (.int x1)] [.int r3] (zh b I4 L) R
    refine zi_i2l dX11_part_15 ?_
    subst K
    exact zi_lreturn dX11_part_16 rfl
set_option maxRecDepth 100000 in
theorem tX11_image_0 {G : zG} {d b : Nat} {I : Nat → Nat → Int32} {L : Nat → Nat → Int64} {R : zR} {x1 : Int32} (hR : zR0 R)
    (K : (((0 ≤ x1 ∧ x1 ≤ 1) → (∃ (I2 : Nat → Nat → Int32), zCall (d + 1) mX4_becomeLike [.ref (zim x1), .ref b] (zh b I L) (none, zh b I2 L) ∧ R = (some (.int 1), zh b I2 L))) ∧ (¬ (0 ≤ x1 ∧ x1 ≤ 1) → (∃ (r4 : Int32) (I5 : Nat → Nat → Int32), zCall (d + 1) mX11_refuseBad [.ref 0, .int (-2)] (zh b I L) (some (.int r4), zh b I5 L) ∧ R = (some (.int r4), zh b I5 L))))) :
    zA G (d + 2) mX11_image 0 [some (.ref 0), some (.int x1)] [] (zh b I L) R := by
  refine zi_iload_n dX11_image_0 rfl rfl ?_
  refine zi_iconst (v := 0) dX11_image_1 (by decide) ?_
  refine zi_iconst (v := 1) dX11_image_2 (by decide) ?_
  refine zi_callS (N := mX11_within) (av := [.int x1, .int 0, .int 1]) (st := []) (R1 := (some (.int (zb (0 ≤ x1 ∧ x1 ≤ 1))), zh b I L)) dX11_image_3 okX11_within u_294 u_295 arX11_within rfl (Nat.le_of_ble_eq_true rfl) (kX11_within _ _ _) hR ?_
  show zA G (d + 2) mX11_image 6 [some (.ref 0), some (.int x1)] [.int (zb (0 ≤ x1 ∧ x1 ≤ 1))] (zh b I L) R
  refine zi_if_ne (tgt := 16) dX11_image_6 (by decide) (fun c1 => ?_) (fun c1 => ?_)
  · have K := K.1 (zb_1 c1)
    refine zi_aload_n dX11_image_16 rfl rfl ?_
    refine zi_iload_n dX11_image_17 rfl rfl ?_
    refine zi_callV (N := mX11_imageNumbered) (av := [.int x1]) (st := []) (R1 := (some (.ref (zim x1)), zh b I L)) dX11_image_18 okX11_imageNumbered u_758 u_760 s_21 zc11 (rfl) (Nat.le_of_ble_eq_true rfl) arX11_imageNumbered rfl (Nat.le_of_ble_eq_true rfl) (kX11_imageNumbered _) hR ?_
    show zA G (d + 2) mX11_image 21 [some (.ref 0), some (.int x1)] [.ref (zim x1)] (zh b I L) R
    refine zi_aload_n dX11_image_21 rfl rfl ?_
    refine zg_getF (k := 0) (v := .ref b) dX11_image_22 zc11 rfl (Nat.le_of_ble_eq_true rfl) (Nat.le_of_ble_eq_true rfl) u_244 rfl (rfl) ?_
    obtain ⟨I2, h3, K⟩ := K
    refine zi_callV (N := mX4_becomeLike) (av := [.ref b]) (st := []) (R1 := (none, zh b I2 L)) dX11_image_25 okX4_becomeLike u_762 u_763 u_764 zc4 ((zim_hl x1).sh) (zim_hl x1).l0 arX4_becomeLike rfl (Nat.le_of_ble_eq_true rfl) (h3) hR ?_
    show zA G (d + 2) mX11_image 28 [some (.ref 0), some (.int x1)] [] (zh b I2 L) R
    refine zi_iconst (v := 1) dX11_image_28 (by decide) ?_
    subst K
    exact zi_ireturn dX11_image_29 rfl rfl
  · have K := K.2 (zb_0 c1)
    refine zi_aload_n dX11_image_9 rfl rfl ?_
    refine zi_bipush (v := (-2)) dX11_image_10 (by decide) ?_
    obtain ⟨r4, I5, h6, K⟩ := K
    refine zi_callV (N := mX11_refuseBad) (av := [.int (-2)]) (st := []) (R1 := (some (.int r4), zh b I5 L)) dX11_image_12 okX11_refuseBad u_297 u_299 s_0 zc11 (rfl) (Nat.le_of_ble_eq_true rfl) arX11_refuseBad rfl (Nat.le_of_ble_eq_true rfl) (h6) hR ?_
    show zA G (d + 2) mX11_image 15 [some (.ref 0), some (.int x1)] [.int r4] (zh b I5 L) R
    subst K
    exact zi_ireturn dX11_image_15 rfl rfl
set_option maxRecDepth 100000 in
theorem tX11_from_0 {G : zG} {d b : Nat} {I : Nat → Nat → Int32} {L : Nat → Nat → Int64} {R : zR} {x1 : Int32} (hb : zbl b) (hR : zR0 R)
    (K : (((0 ≤ x1 ∧ x1 ≤ 1) → (((0 < I (zim x1) 0) → (∃ (I3 : Nat → Nat → Int32), zCall (d + 1) mX4_becomeLike [.ref b, .ref (zim x1)] (zh b I L) (none, zh b I3 L) ∧ R = (some (.int 1), zh b I3 L))) ∧ (¬ (0 < I (zim x1) 0) → (∃ (r5 : Int32) (I6 : Nat → Nat → Int32), zCall (d + 1) mX11_refuseNo [.ref 0, .int (-3)] (zh b I L) (some (.int r5), zh b I6 L) ∧ R = (some (.int r5), zh b I6 L))))) ∧ (¬ (0 ≤ x1 ∧ x1 ≤ 1) → (∃ (r8 : Int32) (I9 : Nat → Nat → Int32), zCall (d + 1) mX11_refuseBad [.ref 0, .int (-2)] (zh b I L) (some (.int r8), zh b I9 L) ∧ R = (some (.int r8), zh b I9 L))))) :
    zA G (d + 2) mX11_from 0 [some (.ref 0), some (.int x1)] [] (zh b I L) R := by
  refine zi_iload_n dX11_from_0 rfl rfl ?_
  refine zi_iconst (v := 0) dX11_from_1 (by decide) ?_
  refine zi_iconst (v := 1) dX11_from_2 (by decide) ?_
  refine zi_callS (N := mX11_within) (av := [.int x1, .int 0, .int 1]) (st := []) (R1 := (some (.int (zb (0 ≤ x1 ∧ x1 ≤ 1))), zh b I L)) dX11_from_3 okX11_within u_294 u_295 arX11_within rfl (Nat.le_of_ble_eq_true rfl) (kX11_within _ _ _) hR ?_
  show zA G (d + 2) mX11_from 6 [some (.ref 0), some (.int x1)] [.int (zb (0 ≤ x1 ∧ x1 ≤ 1))] (zh b I L) R
  refine zi_if_ne (tgt := 16) dX11_from_6 (by decide) (fun c1 => ?_) (fun c1 => ?_)
  · have K := K.1 (zb_1 c1)
    refine zi_aload_n dX11_from_16 rfl rfl ?_
    refine zi_iload_n dX11_from_17 rfl rfl ?_
    refine zi_callV (N := mX11_imageNumbered) (av := [.int x1]) (st := []) (R1 := (some (.ref (zim x1)), zh b I L)) dX11_from_18 okX11_imageNumbered u_758 u_760 s_21 zc11 (rfl) (Nat.le_of_ble_eq_true rfl) arX11_imageNumbered rfl (Nat.le_of_ble_eq_true rfl) (kX11_imageNumbered _) hR ?_
    show zA G (d + 2) mX11_from 21 [some (.ref 0), some (.int x1)] [.ref (zim x1)] (zh b I L) R
    refine zi_callV (N := mX4_isLaidOut) (av := []) (st := []) (R1 := (some (.int (zb (0 < I (zim x1) 0))), zh b I L)) dX11_from_21 okX4_isLaidOut u_770 u_771 u_772 zc4 ((zim_hl x1).sh) (zim_hl x1).l0 arX4_isLaidOut rfl (Nat.le_of_ble_eq_true rfl) (kX4_isLaidOut (zim_hl x1)) hR ?_
    show zA G (d + 2) mX11_from 24 [some (.ref 0), some (.int x1)] [.int (zb (0 < I (zim x1) 0))] (zh b I L) R
    refine zi_if_ne (tgt := 34) dX11_from_24 (by decide) (fun c2 => ?_) (fun c2 => ?_)
    · have K := K.1 (zb_1 c2)
      refine zi_aload_n dX11_from_34 rfl rfl ?_
      refine zg_getF (k := 0) (v := .ref b) dX11_from_35 zc11 rfl (Nat.le_of_ble_eq_true rfl) (Nat.le_of_ble_eq_true rfl) u_244 rfl (rfl) ?_
      refine zi_aload_n dX11_from_38 rfl rfl ?_
      refine zi_iload_n dX11_from_39 rfl rfl ?_
      refine zi_callV (N := mX11_imageNumbered) (av := [.int x1]) (st := [.ref b]) (R1 := (some (.ref (zim x1)), zh b I L)) dX11_from_40 okX11_imageNumbered u_758 u_760 s_21 zc11 (rfl) (Nat.le_of_ble_eq_true rfl) arX11_imageNumbered rfl (Nat.le_of_ble_eq_true rfl) (kX11_imageNumbered _) hR ?_
      show zA G (d + 2) mX11_from 43 [some (.ref 0), some (.int x1)] [.ref (zim x1), .ref b] (zh b I L) R
      obtain ⟨I3, h4, K⟩ := K
      refine zi_callV (N := mX4_becomeLike) (av := [.ref (zim x1)]) (st := []) (R1 := (none, zh b I3 L)) dX11_from_43 okX4_becomeLike u_762 u_763 u_764 zc4 (hb.hl.sh) hb.hl.l0 arX4_becomeLike rfl (Nat.le_of_ble_eq_true rfl) (h4) hR ?_
      show zA G (d + 2) mX11_from 46 [some (.ref 0), some (.int x1)] [] (zh b I3 L) R
      refine zi_iconst (v := 1) dX11_from_46 (by decide) ?_
      subst K
      exact zi_ireturn dX11_from_47 rfl rfl
    · have K := K.2 (zb_0 c2)
      refine zi_aload_n dX11_from_27 rfl rfl ?_
      refine zi_bipush (v := (-3)) dX11_from_28 (by decide) ?_
      obtain ⟨r5, I6, h7, K⟩ := K
      refine zi_callV (N := mX11_refuseNo) (av := [.int (-3)]) (st := []) (R1 := (some (.int r5), zh b I6 L)) dX11_from_30 okX11_refuseNo u_694 u_696 s_19 zc11 (rfl) (Nat.le_of_ble_eq_true rfl) arX11_refuseNo rfl (Nat.le_of_ble_eq_true rfl) (h7) hR ?_
      show zA G (d + 2) mX11_from 33 [some (.ref 0), some (.int x1)] [.int r5] (zh b I6 L) R
      subst K
      exact zi_ireturn dX11_from_33 rfl rfl
  · have K := K.2 (zb_0 c1)
    refine zi_aload_n dX11_from_9 rfl rfl ?_
    refine zi_bipush (v := (-2)) dX11_from_10 (by decide) ?_
    obtain ⟨r8, I9, h10, K⟩ := K
    refine zi_callV (N := mX11_refuseBad) (av := [.int (-2)]) (st := []) (R1 := (some (.int r8), zh b I9 L)) dX11_from_12 okX11_refuseBad u_297 u_299 s_0 zc11 (rfl) (Nat.le_of_ble_eq_true rfl) arX11_refuseBad rfl (Nat.le_of_ble_eq_true rfl) (h10) hR ?_
    show zA G (d + 2) mX11_from 15 [some (.ref 0), some (.int x1)] [.int r8] (zh b I9 L) R
    subst K
    exact zi_ireturn dX11_from_15 rfl rfl
set_option maxRecDepth 100000 in
theorem tX11_status_0 {G : zG} {d b : Nat} {I : Nat → Nat → Int32} {L : Nat → Nat → Int64} {R : zR} {x1 : Int32} (hR : zR0 R)
    (K : (((x1.toInt < 0 ∨ 2 < x1.toInt) → (∃ (r3 : Int32) (I4 : Nat → Nat → Int32), zCall d mX11_refuseBad [.ref 0, .int (-1)] (zh b I L) (some (.int r3), zh b I4 L) ∧ R = (some (.int r3), zh b I4 L))) ∧ (x1 = 0 → R = (some (.int (I 0 12)), zh b I L)) ∧ (x1 = 1 → R = (some (.int (I 0 13)), zh b I L)) ∧ (x1 = 2 → R = (some (.int (I 0 14)), zh b I L)))) :
    zA G (d + 1) mX11_status 0 [some (.ref 0), some (.int x1)] [] (zh b I L) R := by
  refine zi_iload_n dX11_status_0 rfl rfl ?_
  rcases zsw2 x1 0 2 (by decide) with c1 | ⟨k2, hk1, hk2, c1⟩
  · have K := K.1 c1
    refine zi_tableOut (tgt := 43) dX11_status_1 c1 (by decide) ?_
    refine zi_aload_n dX11_status_43 rfl rfl ?_
    refine zi_iconst (v := (-1)) dX11_status_44 (by decide) ?_
    obtain ⟨r3, I4, h5, K⟩ := K
    refine zi_callV (N := mX11_refuseBad) (av := [.int (-1)]) (st := []) (R1 := (some (.int r3), zh b I4 L)) dX11_status_45 okX11_refuseBad u_297 u_299 s_0 zc11 (rfl) (Nat.le_of_ble_eq_true rfl) arX11_refuseBad rfl (Nat.le_of_ble_eq_true rfl) (h5) hR ?_
    show zA G (d + 1) mX11_status 48 [some (.ref 0), some (.int x1)] [.int r3] (zh b I4 L) R
    subst K
    exact zi_ireturn dX11_status_48 rfl rfl
  · have K := K.2
    have hk : k2 = 0 ∨ k2 = 1 ∨ k2 = 2 := by omega
    rcases hk with rfl | rfl | rfl
    · have K := K.1 c1
      refine zi_tableIn (off := 27) (tgt := 28) dX11_status_1 (by rw [c1]; decide) (by rw [c1]; decide) (by rw [c1]; rfl) (by decide) ?_
      refine zi_aload_n dX11_status_28 rfl rfl ?_
      refine zg_getI (k := 12) dX11_status_29 zc11 rfl (Nat.le_of_ble_eq_true rfl) (Nat.le_of_ble_eq_true rfl) u_256 rfl ?_
      subst K
      exact zi_ireturn dX11_status_32 rfl rfl
    · have K := K.2.1 c1
      refine zi_tableIn (off := 32) (tgt := 33) dX11_status_1 (by rw [c1]; decide) (by rw [c1]; decide) (by rw [c1]; rfl) (by decide) ?_
      refine zi_aload_n dX11_status_33 rfl rfl ?_
      refine zg_getI (k := 13) dX11_status_34 zc11 rfl (Nat.le_of_ble_eq_true rfl) (Nat.le_of_ble_eq_true rfl) u_257 rfl ?_
      subst K
      exact zi_ireturn dX11_status_37 rfl rfl
    · have K := K.2.2 c1
      refine zi_tableIn (off := 37) (tgt := 38) dX11_status_1 (by rw [c1]; decide) (by rw [c1]; decide) (by rw [c1]; rfl) (by decide) ?_
      refine zi_aload_n dX11_status_38 rfl rfl ?_
      refine zg_getI (k := 14) dX11_status_39 zc11 rfl (Nat.le_of_ble_eq_true rfl) (Nat.le_of_ble_eq_true rfl) u_258 rfl ?_
      subst K
      exact zi_ireturn dX11_status_42 rfl rfl
set_option maxRecDepth 100000 in
theorem tX11_count_0 {G : zG} {d b : Nat} {I : Nat → Nat → Int32} {L : Nat → Nat → Int64} {R : zR} {x1 : Int32} (hR : zR0 R)
    (K : ((¬ (0 ≤ x1 ∧ x1 ≤ 5) → (∃ (r2 : Int32) (I3 : Nat → Nat → Int32), zCall d mX11_refuseBad [.ref 0, .int (-2)] (zh b I L) (some (.int r2), zh b I3 L) ∧ R = (some (.int r2), zh b I3 L))) ∧ ((0 ≤ x1 ∧ x1 ≤ 5) → (∃ (r5 : Int32), zCall d mX11_amountOf [.ref 0, .int x1] (zh b I L) (some (.int r5), zh b I L) ∧ R = (some (.int r5), zh b I L))))) :
    zA G (d + 1) mX11_count 0 [some (.ref 0), some (.int x1)] [] (zh b I L) R := by
  refine zi_iload_n dX11_count_0 rfl rfl ?_
  refine zi_iconst (v := 0) dX11_count_1 (by decide) ?_
  refine zi_iconst (v := 5) dX11_count_2 (by decide) ?_
  refine zi_callS (N := mX11_within) (av := [.int x1, .int 0, .int 5]) (st := []) (R1 := (some (.int (zb (0 ≤ x1 ∧ x1 ≤ 5))), zh b I L)) dX11_count_3 okX11_within u_294 u_295 arX11_within rfl (Nat.le_of_ble_eq_true rfl) (kX11_within _ _ _) hR ?_
  show zA G (d + 1) mX11_count 6 [some (.ref 0), some (.int x1)] [.int (zb (0 ≤ x1 ∧ x1 ≤ 5))] (zh b I L) R
  refine zi_if_eq (tgt := 17) dX11_count_6 (by decide) (fun c1 => ?_) (fun c1 => ?_)
  · have K := K.1 (zb_0 c1)
    refine zi_aload_n dX11_count_17 rfl rfl ?_
    refine zi_bipush (v := (-2)) dX11_count_18 (by decide) ?_
    obtain ⟨r2, I3, h4, K⟩ := K
    refine zi_callV (N := mX11_refuseBad) (av := [.int (-2)]) (st := []) (R1 := (some (.int r2), zh b I3 L)) dX11_count_20 okX11_refuseBad u_297 u_299 s_0 zc11 (rfl) (Nat.le_of_ble_eq_true rfl) arX11_refuseBad rfl (Nat.le_of_ble_eq_true rfl) (h4) hR ?_
    show zA G (d + 1) mX11_count 23 [some (.ref 0), some (.int x1)] [.int r2] (zh b I3 L) R
    subst K
    exact zi_ireturn dX11_count_23 rfl rfl
  · have K := K.2 (zb_1 c1)
    refine zi_aload_n dX11_count_9 rfl rfl ?_
    refine zi_iload_n dX11_count_10 rfl rfl ?_
    obtain ⟨r5, h6, K⟩ := K
    refine zi_callV (N := mX11_amountOf) (av := [.int x1]) (st := []) (R1 := (some (.int r5), zh b I L)) dX11_count_11 okX11_amountOf u_782 u_784 s_22 zc11 (rfl) (Nat.le_of_ble_eq_true rfl) arX11_amountOf rfl (Nat.le_of_ble_eq_true rfl) (h6) hR ?_
    show zA G (d + 1) mX11_count 14 [some (.ref 0), some (.int x1)] [.int r5] (zh b I L) R
    refine zi_goto (tgt := 23) dX11_count_14 (by decide) ?_
    subst K
    exact zi_ireturn dX11_count_23 rfl rfl
set_option maxRecDepth 100000 in
theorem tX11_digest_0 {G : zG} {d b : Nat} {I : Nat → Nat → Int32} {L : Nat → Nat → Int64} {R : zR} 
    (K : zA G (d + 1) mX11_digest 6 [some (.ref 0), some (.long 809), none, some (.int 0), none] [] (zh b I L) R) :
    zA G (d + 1) mX11_digest 0 [some (.ref 0), none, none, none, none] [] (zh b I L) R := by
  refine zi_ldc2 dX11_digest_0 u_790 ?_
  refine zi_lstore_n (ls' := [some (.ref 0), some (.long 809), none, none, none]) dX11_digest_3 rfl (by decide) rfl ?_
  refine zi_iconst (v := 0) dX11_digest_4 (by decide) ?_
  refine zi_istore_n (ls' := [some (.ref 0), some (.long 809), none, some (.int 0), none]) dX11_digest_5 rfl (by decide) rfl ?_
  exact K
set_option maxRecDepth 100000 in
theorem tX11_digest_6 {G : zG} {d b : Nat} {I : Nat → Nat → Int32} {L : Nat → Nat → Int64} {R : zR} {x1 : Int64} {x3 : Int32} (hR : zR0 R)
    (K : ((5 < x3 → zA G (d + 1) mX11_digest 32 [some (.ref 0), some (.long x1), none, some (.int 0), none] [] (zh b I L) R) ∧ (¬ 5 < x3 → (∃ (r2 : Int32), zCall d mX11_amountOf [.ref 0, .int x3] (zh b I L) (some (.int r2), zh b I L) ∧ zA G (d + 1) mX11_digest 6 [some (.ref 0), some (.long ((31 * x1) + r2.toInt64)), none, some (.int (x3 + 1)), none] [] (zh b I L) R)))) :
    zA G (d + 1) mX11_digest 6 [some (.ref 0), some (.long x1), none, some (.int x3), none] [] (zh b I L) R := by
  refine zi_iload_n dX11_digest_6 rfl rfl ?_
  refine zi_iconst (v := 5) dX11_digest_7 (by decide) ?_
  refine zi_icmp_gt (tgt := 30) dX11_digest_8 (by decide) (fun c1 => ?_) (fun c1 => ?_)
  · have K := K.1 c1
    refine zi_iconst (v := 0) dX11_digest_30 (by decide) ?_
    refine zi_istore_n (ls' := [some (.ref 0), some (.long x1), none, some (.int 0), none]) dX11_digest_31 rfl (by decide) rfl ?_
    exact K
  · have K := K.2 c1
    refine zi_ldc2 dX11_digest_11 u_791 ?_
    refine zi_lload_n dX11_digest_14 rfl rfl ?_
    refine zi_lmul dX11_digest_15 ?_
    refine zi_aload_n dX11_digest_16 rfl rfl ?_
    refine zi_iload_n dX11_digest_17 rfl rfl ?_
    obtain ⟨r2, h3, K⟩ := K
    refine zi_callV (N := mX11_amountOf) (av := [.int x3]) (st := [.long (31 * x1)]) (R1 := (some (.int r2), zh b I L)) dX11_digest_18 okX11_amountOf u_782 u_784 s_22 zc11 (rfl) (Nat.le_of_ble_eq_true rfl) arX11_amountOf rfl (Nat.le_of_ble_eq_true rfl) (h3) hR ?_
    show zA G (d + 1) mX11_digest 21 [some (.ref 0), some (.long x1), none, some (.int x3), none] [.int r2, .long (31 * x1)] (zh b I L) R
    refine zi_i2l dX11_digest_21 ?_
    refine zi_ladd dX11_digest_22 ?_
    refine zi_lstore_n (ls' := [some (.ref 0), some (.long ((31 * x1) + r2.toInt64)), none, some (.int x3), none]) dX11_digest_23 rfl (by decide) rfl ?_
    refine zi_iinc (v := x3 + 1) (ls' := [some (.ref 0), some (.long ((31 * x1) + r2.toInt64)), none, some (.int (x3 + 1)), none]) dX11_digest_24 rfl (by decide) rfl rfl ?_
    refine zi_goto (tgt := 6) dX11_digest_27 (by decide) ?_
    exact K
set_option maxRecDepth 100000 in
theorem tX11_digest_32 {G : zG} {d b : Nat} {I : Nat → Nat → Int32} {L : Nat → Nat → Int64} {R : zR} {x1 : Int64} {x3 : Int32} (hb : zbl b)
    (K : (((I b 0) ≤ x3 → zA G (d + 1) mX11_digest 116 [some (.ref 0), some (.long x1), none, some (.int 0), none] [] (zh b I L) R) ∧ (¬ (I b 0) ≤ x3 → zA G (d + 1) mX11_digest 46 [some (.ref 0), some (.long x1), none, some (.int x3), some (.int 0)] [] (zh b I L) R))) :
    zA G (d + 1) mX11_digest 32 [some (.ref 0), some (.long x1), none, some (.int x3), none] [] (zh b I L) R := by
  refine zi_iload_n dX11_digest_32 rfl rfl ?_
  refine zi_aload_n dX11_digest_33 rfl rfl ?_
  refine zg_getF (k := 0) (v := .ref b) dX11_digest_34 zc11 rfl (Nat.le_of_ble_eq_true rfl) (Nat.le_of_ble_eq_true rfl) u_244 rfl (rfl) ?_
  refine zg_getI (k := 0) dX11_digest_37 zc4 hb.hl.sh hb.hl.l0 (Nat.le_of_ble_eq_true rfl) u_41 rfl ?_
  refine zi_icmp_ge (tgt := 114) dX11_digest_40 (by decide) (fun c1 => ?_) (fun c1 => ?_)
  · have K := K.1 c1
    refine zi_iconst (v := 0) dX11_digest_114 (by decide) ?_
    refine zi_istore_n (ls' := [some (.ref 0), some (.long x1), none, some (.int 0), none]) dX11_digest_115 rfl (by decide) rfl ?_
    exact K
  · have K := K.2 c1
    refine zi_iconst (v := 0) dX11_digest_43 (by decide) ?_
    refine zi_istore (ls' := [some (.ref 0), some (.long x1), none, some (.int x3), some (.int 0)]) dX11_digest_44 (by decide) rfl ?_
    exact K
set_option maxRecDepth 100000 in
theorem tX11_digest_46 {G : zG} {d b : Nat} {I : Nat → Nat → Int32} {L : Nat → Nat → Int64} {R : zR} {x1 : Int64} {x3 : Int32} {x4 : Int32} (hb : zbl b) (hR : zR0 R)
    (K : (((I b 1) ≤ x4 → zA G (d + 1) mX11_digest 32 [some (.ref 0), some (.long x1), none, some (.int (x3 + 1)), none] [] (zh b I L) R) ∧ (¬ (I b 1) ≤ x4 → (vp_in ((x3 * 6) + x4) 48 ∧ (vp_in ((x3 * 6) + x4) 48 ∧ zA G (d + 1) mX11_digest 46 [some (.ref 0), some (.long ((31 * ((31 * x1) + ((I (b + 1) (zx ((x3 * 6) + x4))).toInt64))) + ((I (b + 2) (zx ((x3 * 6) + x4))).toInt64))), none, some (.int x3), some (.int (x4 + 1))] [] (zh b I L) R))))) :
    zA G (d + 1) mX11_digest 46 [some (.ref 0), some (.long x1), none, some (.int x3), some (.int x4)] [] (zh b I L) R := by
  refine zi_iload dX11_digest_46 rfl ?_
  refine zi_aload_n dX11_digest_48 rfl rfl ?_
  refine zg_getF (k := 0) (v := .ref b) dX11_digest_49 zc11 rfl (Nat.le_of_ble_eq_true rfl) (Nat.le_of_ble_eq_true rfl) u_244 rfl (rfl) ?_
  refine zg_getI (k := 1) dX11_digest_52 zc4 hb.hl.sh hb.hl.l0 (Nat.le_of_ble_eq_true rfl) u_44 rfl ?_
  refine zi_icmp_ge (tgt := 108) dX11_digest_55 (by decide) (fun c1 => ?_) (fun c1 => ?_)
  · have K := K.1 c1
    refine zi_iinc (v := x3 + 1) (ls' := [some (.ref 0), some (.long x1), none, some (.int (x3 + 1)), some (.int x4)]) dX11_digest_108 rfl (by decide) rfl rfl ?_
    refine zi_goto (tgt := 32) dX11_digest_111 (by decide) ?_
    refine zi_mask [true, true, true, true, false] rfl ?_
    exact K
  · have K := K.2 c1
    refine zi_ldc2 dX11_digest_58 u_791 ?_
    refine zi_lload_n dX11_digest_61 rfl rfl ?_
    refine zi_lmul dX11_digest_62 ?_
    refine zi_aload_n dX11_digest_63 rfl rfl ?_
    refine zg_getF (k := 0) (v := .ref b) dX11_digest_64 zc11 rfl (Nat.le_of_ble_eq_true rfl) (Nat.le_of_ble_eq_true rfl) u_244 rfl (rfl) ?_
    refine zg_getF (k := 5) (v := .ref (b + 1)) dX11_digest_67 zc4 hb.hl.sh hb.hl.l0 (Nat.le_of_ble_eq_true rfl) u_56 rfl (hb.hl.f5) ?_
    refine zi_iload_n dX11_digest_70 rfl rfl ?_
    refine zi_iload dX11_digest_71 rfl ?_
    refine zi_callS (N := mX11_cell) (av := [.int x3, .int x4]) (st := [.ref (b + 1), .long (31 * x1)]) (R1 := (some (.int ((x3 * 6) + x4)), zh b I L)) dX11_digest_73 okX11_cell u_314 u_315 arX11_cell rfl (Nat.le_of_ble_eq_true rfl) (kX11_cell _ _) hR ?_
    show zA G (d + 1) mX11_digest 76 [some (.ref 0), some (.long x1), none, some (.int x3), some (.int x4)] [.int ((x3 * 6) + x4), .ref (b + 1), .long (31 * x1)] (zh b I L) R
    have o2 := K.1
    have K := K.2
    refine zg_iaload dX11_digest_76 (hb.hl.s1) (hb.hl.lt 1 (Nat.le_of_ble_eq_true rfl)) o2 ?_
    refine zi_i2l dX11_digest_77 ?_
    refine zi_ladd dX11_digest_78 ?_
    refine zi_lstore_n (ls' := [some (.ref 0), some (.long ((31 * x1) + ((I (b + 1) (zx ((x3 * 6) + x4))).toInt64))), none, some (.int x3), some (.int x4)]) dX11_digest_79 rfl (by decide) rfl ?_
    refine zi_ldc2 dX11_digest_80 u_791 ?_
    refine zi_lload_n dX11_digest_83 rfl rfl ?_
    refine zi_lmul dX11_digest_84 ?_
    refine zi_aload_n dX11_digest_85 rfl rfl ?_
    refine zg_getF (k := 0) (v := .ref b) dX11_digest_86 zc11 rfl (Nat.le_of_ble_eq_true rfl) (Nat.le_of_ble_eq_true rfl) u_244 rfl (rfl) ?_
    refine zg_getF (k := 6) (v := .ref (b + 2)) dX11_digest_89 zc4 hb.hl.sh hb.hl.l0 (Nat.le_of_ble_eq_true rfl) u_63 rfl (hb.hl.f6) ?_
    refine zi_iload_n dX11_digest_92 rfl rfl ?_
    refine zi_iload dX11_digest_93 rfl ?_
    refine zi_callS (N := mX11_cell) (av := [.int x3, .int x4]) (st := [.ref (b + 2), .long (31 * ((31 * x1) + ((I (b + 1) (zx ((x3 * 6) + x4))).toInt64)))]) (R1 := (some (.int ((x3 * 6) + x4)), zh b I L)) dX11_digest_95 okX11_cell u_314 u_315 arX11_cell rfl (Nat.le_of_ble_eq_true rfl) (kX11_cell _ _) hR ?_
    show zA G (d + 1) mX11_digest 98 [some (.ref 0), some (.long ((31 * x1) + ((I (b + 1) (zx ((x3 * 6) + x4))).toInt64))), none, some (.int x3), some (.int x4)] [.int ((x3 * 6) + x4), .ref (b + 2), .long (31 * ((31 * x1) + ((I (b + 1) (zx ((x3 * 6) + x4))).toInt64)))] (zh b I L) R
    have o3 := K.1
    have K := K.2
    refine zg_iaload dX11_digest_98 (hb.hl.s2) (hb.hl.lt 2 (Nat.le_of_ble_eq_true rfl)) o3 ?_
    refine zi_i2l dX11_digest_99 ?_
    refine zi_ladd dX11_digest_100 ?_
    refine zi_lstore_n (ls' := [some (.ref 0), some (.long ((31 * ((31 * x1) + ((I (b + 1) (zx ((x3 * 6) + x4))).toInt64))) + ((I (b + 2) (zx ((x3 * 6) + x4))).toInt64))), none, some (.int x3), some (.int x4)]) dX11_digest_101 rfl (by decide) rfl ?_
    refine zi_iinc (v := x4 + 1) (ls' := [some (.ref 0), some (.long ((31 * ((31 * x1) + ((I (b + 1) (zx ((x3 * 6) + x4))).toInt64))) + ((I (b + 2) (zx ((x3 * 6) + x4))).toInt64))), none, some (.int x3), some (.int (x4 + 1))]) dX11_digest_102 rfl (by decide) rfl rfl ?_
    refine zi_goto (tgt := 46) dX11_digest_105 (by decide) ?_
    exact K
set_option maxRecDepth 100000 in
theorem tX11_digest_116 {G : zG} {d b : Nat} {I : Nat → Nat → Int32} {L : Nat → Nat → Int64} {R : zR} {x1 : Int64} {x3 : Int32} (hb : zbl b)
    (K : (((I b 2) ≤ x3 → zA G (d + 1) mX11_digest 229 [some (.ref 0), some (.long x1), none, some (.int 0), none] [] (zh b I L) R) ∧ (¬ (I b 2) ≤ x3 → (vp_in x3 6 ∧ (vp_in x3 6 ∧ (vp_in x3 6 ∧ zA G (d + 1) mX11_digest 181 [some (.ref 0), some (.long ((31 * ((31 * ((31 * x1) + ((I (b + 3) (zx x3)).toInt64))) + ((I (b + 4) (zx x3)).toInt64))) + ((I (b + 5) (zx x3)).toInt64))), none, some (.int x3), some (.int 0)] [] (zh b I L) R)))))) :
    zA G (d + 1) mX11_digest 116 [some (.ref 0), some (.long x1), none, some (.int x3), none] [] (zh b I L) R := by
  refine zi_iload_n dX11_digest_116 rfl rfl ?_
  refine zi_aload_n dX11_digest_117 rfl rfl ?_
  refine zg_getF (k := 0) (v := .ref b) dX11_digest_118 zc11 rfl (Nat.le_of_ble_eq_true rfl) (Nat.le_of_ble_eq_true rfl) u_244 rfl (rfl) ?_
  refine zg_getI (k := 2) dX11_digest_121 zc4 hb.hl.sh hb.hl.l0 (Nat.le_of_ble_eq_true rfl) u_48 rfl ?_
  refine zi_icmp_ge (tgt := 227) dX11_digest_124 (by decide) (fun c1 => ?_) (fun c1 => ?_)
  · have K := K.1 c1
    refine zi_iconst (v := 0) dX11_digest_227 (by decide) ?_
    refine zi_istore_n (ls' := [some (.ref 0), some (.long x1), none, some (.int 0), none]) dX11_digest_228 rfl (by decide) rfl ?_
    exact K
  · have K := K.2 c1
    refine zi_ldc2 dX11_digest_127 u_791 ?_
    refine zi_lload_n dX11_digest_130 rfl rfl ?_
    refine zi_lmul dX11_digest_131 ?_
    refine zi_aload_n dX11_digest_132 rfl rfl ?_
    refine zg_getF (k := 0) (v := .ref b) dX11_digest_133 zc11 rfl (Nat.le_of_ble_eq_true rfl) (Nat.le_of_ble_eq_true rfl) u_244 rfl (rfl) ?_
    refine zg_getF (k := 7) (v := .ref (b + 3)) dX11_digest_136 zc4 hb.hl.sh hb.hl.l0 (Nat.le_of_ble_eq_true rfl) u_67 rfl (hb.hl.f7) ?_
    refine zi_iload_n dX11_digest_139 rfl rfl ?_
    have o2 := K.1
    have K := K.2
    refine zg_iaload dX11_digest_140 (hb.hl.s3) (hb.hl.lt 3 (Nat.le_of_ble_eq_true rfl)) o2 ?_
    refine zi_i2l dX11_digest_141 ?_
    refine zi_ladd dX11_digest_142 ?_
    refine zi_lstore_n (ls' := [some (.ref 0), some (.long ((31 * x1) + ((I (b + 3) (zx x3)).toInt64))), none, some (.int x3), none]) dX11_digest_143 rfl (by decide) rfl ?_
    refine zi_ldc2 dX11_digest_144 u_791 ?_
    refine zi_lload_n dX11_digest_147 rfl rfl ?_
    refine zi_lmul dX11_digest_148 ?_
    refine zi_aload_n dX11_digest_149 rfl rfl ?_
    refine zg_getF (k := 0) (v := .ref b) dX11_digest_150 zc11 rfl (Nat.le_of_ble_eq_true rfl) (Nat.le_of_ble_eq_true rfl) u_244 rfl (rfl) ?_
    refine zg_getF (k := 8) (v := .ref (b + 4)) dX11_digest_153 zc4 hb.hl.sh hb.hl.l0 (Nat.le_of_ble_eq_true rfl) u_70 rfl (hb.hl.f8) ?_
    refine zi_iload_n dX11_digest_156 rfl rfl ?_
    have o3 := K.1
    have K := K.2
    refine zg_iaload dX11_digest_157 (hb.hl.s4) (hb.hl.lt 4 (Nat.le_of_ble_eq_true rfl)) o3 ?_
    refine zi_i2l dX11_digest_158 ?_
    refine zi_ladd dX11_digest_159 ?_
    refine zi_lstore_n (ls' := [some (.ref 0), some (.long ((31 * ((31 * x1) + ((I (b + 3) (zx x3)).toInt64))) + ((I (b + 4) (zx x3)).toInt64))), none, some (.int x3), none]) dX11_digest_160 rfl (by decide) rfl ?_
    refine zi_ldc2 dX11_digest_161 u_791 ?_
    refine zi_lload_n dX11_digest_164 rfl rfl ?_
    refine zi_lmul dX11_digest_165 ?_
    refine zi_aload_n dX11_digest_166 rfl rfl ?_
    refine zg_getF (k := 0) (v := .ref b) dX11_digest_167 zc11 rfl (Nat.le_of_ble_eq_true rfl) (Nat.le_of_ble_eq_true rfl) u_244 rfl (rfl) ?_
    refine zg_getF (k := 9) (v := .ref (b + 5)) dX11_digest_170 zc4 hb.hl.sh hb.hl.l0 (Nat.le_of_ble_eq_true rfl) u_72 rfl (hb.hl.f9) ?_
    refine zi_iload_n dX11_digest_173 rfl rfl ?_
    have o4 := K.1
    have K := K.2
    refine zg_iaload dX11_digest_174 (hb.hl.s5) (hb.hl.lt 5 (Nat.le_of_ble_eq_true rfl)) o4 ?_
    refine zi_i2l dX11_digest_175 ?_
    refine zi_ladd dX11_digest_176 ?_
    refine zi_lstore_n (ls' := [some (.ref 0), some (.long ((31 * ((31 * ((31 * x1) + ((I (b + 3) (zx x3)).toInt64))) + ((I (b + 4) (zx x3)).toInt64))) + ((I (b + 5) (zx x3)).toInt64))), none, some (.int x3), none]) dX11_digest_177 rfl (by decide) rfl ?_
    refine zi_iconst (v := 0) dX11_digest_178 (by decide) ?_
    refine zi_istore (ls' := [some (.ref 0), some (.long ((31 * ((31 * ((31 * x1) + ((I (b + 3) (zx x3)).toInt64))) + ((I (b + 4) (zx x3)).toInt64))) + ((I (b + 5) (zx x3)).toInt64))), none, some (.int x3), some (.int 0)]) dX11_digest_179 (by decide) rfl ?_
    exact K
set_option maxRecDepth 100000 in
theorem tX11_digest_181 {G : zG} {d b : Nat} {I : Nat → Nat → Int32} {L : Nat → Nat → Int64} {R : zR} {x1 : Int64} {x3 : Int32} {x4 : Int32} (hb : zbl b) (hR : zR0 R)
    (K : (((I b 0) ≤ x4 → zA G (d + 1) mX11_digest 116 [some (.ref 0), some (.long x1), none, some (.int (x3 + 1)), none] [] (zh b I L) R) ∧ (¬ (I b 0) ≤ x4 → (vp_in ((x3 * 8) + x4) 48 ∧ zA G (d + 1) mX11_digest 181 [some (.ref 0), some (.long ((31 * x1) + ((I (b + 6) (zx ((x3 * 8) + x4))).toInt64))), none, some (.int x3), some (.int (x4 + 1))] [] (zh b I L) R)))) :
    zA G (d + 1) mX11_digest 181 [some (.ref 0), some (.long x1), none, some (.int x3), some (.int x4)] [] (zh b I L) R := by
  refine zi_iload dX11_digest_181 rfl ?_
  refine zi_aload_n dX11_digest_183 rfl rfl ?_
  refine zg_getF (k := 0) (v := .ref b) dX11_digest_184 zc11 rfl (Nat.le_of_ble_eq_true rfl) (Nat.le_of_ble_eq_true rfl) u_244 rfl (rfl) ?_
  refine zg_getI (k := 0) dX11_digest_187 zc4 hb.hl.sh hb.hl.l0 (Nat.le_of_ble_eq_true rfl) u_41 rfl ?_
  refine zi_icmp_ge (tgt := 221) dX11_digest_190 (by decide) (fun c1 => ?_) (fun c1 => ?_)
  · have K := K.1 c1
    refine zi_iinc (v := x3 + 1) (ls' := [some (.ref 0), some (.long x1), none, some (.int (x3 + 1)), some (.int x4)]) dX11_digest_221 rfl (by decide) rfl rfl ?_
    refine zi_goto (tgt := 116) dX11_digest_224 (by decide) ?_
    refine zi_mask [true, true, true, true, false] rfl ?_
    exact K
  · have K := K.2 c1
    refine zi_ldc2 dX11_digest_193 u_791 ?_
    refine zi_lload_n dX11_digest_196 rfl rfl ?_
    refine zi_lmul dX11_digest_197 ?_
    refine zi_aload_n dX11_digest_198 rfl rfl ?_
    refine zg_getF (k := 0) (v := .ref b) dX11_digest_199 zc11 rfl (Nat.le_of_ble_eq_true rfl) (Nat.le_of_ble_eq_true rfl) u_244 rfl (rfl) ?_
    refine zg_getF (k := 10) (v := .ref (b + 6)) dX11_digest_202 zc4 hb.hl.sh hb.hl.l0 (Nat.le_of_ble_eq_true rfl) u_75 rfl (hb.hl.f10) ?_
    refine zi_iload_n dX11_digest_205 rfl rfl ?_
    refine zi_iload dX11_digest_206 rfl ?_
    refine zi_callS (N := mX11_onLine) (av := [.int x3, .int x4]) (st := [.ref (b + 6), .long (31 * x1)]) (R1 := (some (.int ((x3 * 8) + x4)), zh b I L)) dX11_digest_208 okX11_onLine u_345 u_334 arX11_onLine rfl (Nat.le_of_ble_eq_true rfl) (kX11_onLine _ _) hR ?_
    show zA G (d + 1) mX11_digest 211 [some (.ref 0), some (.long x1), none, some (.int x3), some (.int x4)] [.int ((x3 * 8) + x4), .ref (b + 6), .long (31 * x1)] (zh b I L) R
    have o2 := K.1
    have K := K.2
    refine zg_iaload dX11_digest_211 (hb.hl.s6) (hb.hl.lt 6 (Nat.le_of_ble_eq_true rfl)) o2 ?_
    refine zi_i2l dX11_digest_212 ?_
    refine zi_ladd dX11_digest_213 ?_
    refine zi_lstore_n (ls' := [some (.ref 0), some (.long ((31 * x1) + ((I (b + 6) (zx ((x3 * 8) + x4))).toInt64))), none, some (.int x3), some (.int x4)]) dX11_digest_214 rfl (by decide) rfl ?_
    refine zi_iinc (v := x4 + 1) (ls' := [some (.ref 0), some (.long ((31 * x1) + ((I (b + 6) (zx ((x3 * 8) + x4))).toInt64))), none, some (.int x3), some (.int (x4 + 1))]) dX11_digest_215 rfl (by decide) rfl rfl ?_
    refine zi_goto (tgt := 181) dX11_digest_218 (by decide) ?_
    exact K
set_option maxRecDepth 100000 in
theorem tX11_digest_229 {G : zG} {d b : Nat} {I : Nat → Nat → Int32} {L : Nat → Nat → Int64} {R : zR} {x1 : Int64} {x3 : Int32} (hb : zbl b)
    (K : (((I b 3) ≤ x3 → R = (some (.long ((31 * ((31 * x1) + (L 0 10))) + (L 0 11))), zh b I L)) ∧ (¬ (I b 3) ≤ x3 → (vp_in x3 8 ∧ zA G (d + 1) mX11_digest 229 [some (.ref 0), some (.long ((31 * x1) + ((I (b + 7) (zx x3)).toInt64))), none, some (.int (x3 + 1)), none] [] (zh b I L) R)))) :
    zA G (d + 1) mX11_digest 229 [some (.ref 0), some (.long x1), none, some (.int x3), none] [] (zh b I L) R := by
  refine zi_iload_n dX11_digest_229 rfl rfl ?_
  refine zi_aload_n dX11_digest_230 rfl rfl ?_
  refine zg_getF (k := 0) (v := .ref b) dX11_digest_231 zc11 rfl (Nat.le_of_ble_eq_true rfl) (Nat.le_of_ble_eq_true rfl) u_244 rfl (rfl) ?_
  refine zg_getI (k := 3) dX11_digest_234 zc4 hb.hl.sh hb.hl.l0 (Nat.le_of_ble_eq_true rfl) u_51 rfl ?_
  refine zi_icmp_ge (tgt := 263) dX11_digest_237 (by decide) (fun c1 => ?_) (fun c1 => ?_)
  · have K := K.1 c1
    refine zi_ldc2 dX11_digest_263 u_791 ?_
    refine zi_lload_n dX11_digest_266 rfl rfl ?_
    refine zi_lmul dX11_digest_267 ?_
    refine zi_aload_n dX11_digest_268 rfl rfl ?_
    refine zg_getL (k := 10) dX11_digest_269 zc11 rfl (Nat.le_of_ble_eq_true rfl) (Nat.le_of_ble_eq_true rfl) u_254 rfl ?_
    refine zi_ladd dX11_digest_272 ?_
    refine zi_lstore_n (ls' := [some (.ref 0), some (.long ((31 * x1) + (L 0 10))), none, some (.int x3), none]) dX11_digest_273 rfl (by decide) rfl ?_
    refine zi_ldc2 dX11_digest_274 u_791 ?_
    refine zi_lload_n dX11_digest_277 rfl rfl ?_
    refine zi_lmul dX11_digest_278 ?_
    refine zi_aload_n dX11_digest_279 rfl rfl ?_
    refine zg_getL (k := 11) dX11_digest_280 zc11 rfl (Nat.le_of_ble_eq_true rfl) (Nat.le_of_ble_eq_true rfl) u_255 rfl ?_
    refine zi_ladd dX11_digest_283 ?_
    subst K
    exact zi_lreturn dX11_digest_284 rfl
  · have K := K.2 c1
    refine zi_ldc2 dX11_digest_240 u_791 ?_
    refine zi_lload_n dX11_digest_243 rfl rfl ?_
    refine zi_lmul dX11_digest_244 ?_
    refine zi_aload_n dX11_digest_245 rfl rfl ?_
    refine zg_getF (k := 0) (v := .ref b) dX11_digest_246 zc11 rfl (Nat.le_of_ble_eq_true rfl) (Nat.le_of_ble_eq_true rfl) u_244 rfl (rfl) ?_
    refine zg_getF (k := 11) (v := .ref (b + 7)) dX11_digest_249 zc4 hb.hl.sh hb.hl.l0 (Nat.le_of_ble_eq_true rfl) u_78 rfl (hb.hl.f11) ?_
    refine zi_iload_n dX11_digest_252 rfl rfl ?_
    have o2 := K.1
    have K := K.2
    refine zg_iaload dX11_digest_253 (hb.hl.s7) (hb.hl.lt 7 (Nat.le_of_ble_eq_true rfl)) o2 ?_
    refine zi_i2l dX11_digest_254 ?_
    refine zi_ladd dX11_digest_255 ?_
    refine zi_lstore_n (ls' := [some (.ref 0), some (.long ((31 * x1) + ((I (b + 7) (zx x3)).toInt64))), none, some (.int x3), none]) dX11_digest_256 rfl (by decide) rfl ?_
    refine zi_iinc (v := x3 + 1) (ls' := [some (.ref 0), some (.long ((31 * x1) + ((I (b + 7) (zx x3)).toInt64))), none, some (.int (x3 + 1)), none]) dX11_digest_257 rfl (by decide) rfl rfl ?_
    refine zi_goto (tgt := 229) dX11_digest_260 (by decide) ?_
    exact K
set_option maxRecDepth 100000 in
theorem tX11_setFraction_0 {G : zG} {d b : Nat} {I : Nat → Nat → Int32} {L : Nat → Nat → Int64} {R : zR} {x1 : Int64} {x3 : Int64} (hR : zR0 R)
    (K : (∃ (r1 : Int64), zCall d mX11_commonDivisor [.long x1, .long x3] (zh b I L) (some (.long r1), zh b I L) ∧ (((lg_cmp r1 0) ≤ 0 → R = (none, zh b I L)) ∧ (¬ (lg_cmp r1 0) ≤ 0 → (¬ r1 = 0 ∧ (¬ r1 = 0 ∧ R = (none, zh b I (zupL (zupL L 0 10 (x1 / r1)) 0 11 (x3 / r1))))))))) :
    zA G (d + 1) mX11_setFraction 0 [some (.ref 0), some (.long x1), none, some (.long x3), none, none, none] [] (zh b I L) R := by
  refine zi_lload_n dX11_setFraction_0 rfl rfl ?_
  refine zi_lload_n dX11_setFraction_1 rfl rfl ?_
  obtain ⟨r1, h2, K⟩ := K
  refine zi_callS (N := mX11_commonDivisor) (av := [.long x1, .long x3]) (st := []) (R1 := (some (.long r1), zh b I L)) dX11_setFraction_2 okX11_commonDivisor u_656 u_657 arX11_commonDivisor rfl (Nat.le_of_ble_eq_true rfl) (h2) hR ?_
  show zA G (d + 1) mX11_setFraction 5 [some (.ref 0), some (.long x1), none, some (.long x3), none, none, none] [.long r1] (zh b I L) R
  refine zi_lstore (ls' := [some (.ref 0), some (.long x1), none, some (.long x3), none, some (.long r1), none]) dX11_setFraction_5 (by decide) rfl ?_
  refine zi_lload dX11_setFraction_7 rfl ?_
  refine zi_lconst (v := 0) dX11_setFraction_9 (by decide) ?_
  refine zi_lcmp dX11_setFraction_10 ?_
  refine zi_if_le (tgt := 30) dX11_setFraction_11 (by decide) (fun c3 => ?_) (fun c3 => ?_)
  · have K := K.1 c3
    subst K
    exact zi_return dX11_setFraction_30 rfl
  · have K := K.2 c3
    refine zi_aload_n dX11_setFraction_14 rfl rfl ?_
    refine zi_lload_n dX11_setFraction_15 rfl rfl ?_
    refine zi_lload dX11_setFraction_16 rfl ?_
    have o4 := K.1
    have K := K.2
    refine zi_ldiv dX11_setFraction_18 o4 ?_
    refine zg_putL (k := 10) dX11_setFraction_19 zc11 rfl (Nat.le_of_ble_eq_true rfl) (Nat.le_of_ble_eq_true rfl) u_254 rfl rfl ?_
    refine zi_aload_n dX11_setFraction_22 rfl rfl ?_
    refine zi_lload_n dX11_setFraction_23 rfl rfl ?_
    refine zi_lload dX11_setFraction_24 rfl ?_
    have o5 := K.1
    have K := K.2
    refine zi_ldiv dX11_setFraction_26 o5 ?_
    refine zg_putL (k := 11) dX11_setFraction_27 zc11 rfl (Nat.le_of_ble_eq_true rfl) (Nat.le_of_ble_eq_true rfl) u_255 rfl rfl ?_
    subst K
    exact zi_return dX11_setFraction_30 rfl
set_option maxRecDepth 100000 in
theorem tX11_amountOf_0 {G : zG} {d b : Nat} {I : Nat → Nat → Int32} {L : Nat → Nat → Int64} {R : zR} {x1 : Int32} (hb : zbl b)
    (K : (((x1.toInt < 0 ∨ 4 < x1.toInt) → R = (some (.int (I 53 1)), zh b I L)) ∧ (x1 = 0 → R = (some (.int (I b 0)), zh b I L)) ∧ (x1 = 1 → R = (some (.int (I b 1)), zh b I L)) ∧ (x1 = 2 → R = (some (.int (I b 2)), zh b I L)) ∧ (x1 = 3 → R = (some (.int (I b 3)), zh b I L)) ∧ (x1 = 4 → R = (some (.int (I b 4)), zh b I L)))) :
    zA G d mX11_amountOf 0 [some (.ref 0), some (.int x1)] [] (zh b I L) R := by
  refine zi_iload_n dX11_amountOf_0 rfl rfl ?_
  rcases zsw2 x1 0 4 (by decide) with c1 | ⟨k2, hk1, hk2, c1⟩
  · have K := K.1 c1
    refine zi_tableOut (tgt := 76) dX11_amountOf_1 c1 (by decide) ?_
    refine zi_aload_n dX11_amountOf_76 rfl rfl ?_
    refine zg_getF (k := 8) (v := .ref 53) dX11_amountOf_77 zc11 rfl (Nat.le_of_ble_eq_true rfl) (Nat.le_of_ble_eq_true rfl) u_252 rfl (rfl) ?_
    refine zg_getI (k := 1) dX11_amountOf_80 zc7 rfl (Nat.le_of_ble_eq_true rfl) (Nat.le_of_ble_eq_true rfl) u_221 rfl ?_
    subst K
    exact zi_ireturn dX11_amountOf_83 rfl rfl
  · have K := K.2
    have hk : k2 = 0 ∨ k2 = 1 ∨ k2 = 2 ∨ k2 = 3 ∨ k2 = 4 := by omega
    rcases hk with rfl | rfl | rfl | rfl | rfl
    · have K := K.1 c1
      refine zi_tableIn (off := 35) (tgt := 36) dX11_amountOf_1 (by rw [c1]; decide) (by rw [c1]; decide) (by rw [c1]; rfl) (by decide) ?_
      refine zi_aload_n dX11_amountOf_36 rfl rfl ?_
      refine zg_getF (k := 0) (v := .ref b) dX11_amountOf_37 zc11 rfl (Nat.le_of_ble_eq_true rfl) (Nat.le_of_ble_eq_true rfl) u_244 rfl (rfl) ?_
      refine zg_getI (k := 0) dX11_amountOf_40 zc4 hb.hl.sh hb.hl.l0 (Nat.le_of_ble_eq_true rfl) u_41 rfl ?_
      subst K
      exact zi_ireturn dX11_amountOf_43 rfl rfl
    · have K := K.2.1 c1
      refine zi_tableIn (off := 43) (tgt := 44) dX11_amountOf_1 (by rw [c1]; decide) (by rw [c1]; decide) (by rw [c1]; rfl) (by decide) ?_
      refine zi_aload_n dX11_amountOf_44 rfl rfl ?_
      refine zg_getF (k := 0) (v := .ref b) dX11_amountOf_45 zc11 rfl (Nat.le_of_ble_eq_true rfl) (Nat.le_of_ble_eq_true rfl) u_244 rfl (rfl) ?_
      refine zg_getI (k := 1) dX11_amountOf_48 zc4 hb.hl.sh hb.hl.l0 (Nat.le_of_ble_eq_true rfl) u_44 rfl ?_
      subst K
      exact zi_ireturn dX11_amountOf_51 rfl rfl
    · have K := K.2.2.1 c1
      refine zi_tableIn (off := 51) (tgt := 52) dX11_amountOf_1 (by rw [c1]; decide) (by rw [c1]; decide) (by rw [c1]; rfl) (by decide) ?_
      refine zi_aload_n dX11_amountOf_52 rfl rfl ?_
      refine zg_getF (k := 0) (v := .ref b) dX11_amountOf_53 zc11 rfl (Nat.le_of_ble_eq_true rfl) (Nat.le_of_ble_eq_true rfl) u_244 rfl (rfl) ?_
      refine zg_getI (k := 2) dX11_amountOf_56 zc4 hb.hl.sh hb.hl.l0 (Nat.le_of_ble_eq_true rfl) u_48 rfl ?_
      subst K
      exact zi_ireturn dX11_amountOf_59 rfl rfl
    · have K := K.2.2.2.1 c1
      refine zi_tableIn (off := 59) (tgt := 60) dX11_amountOf_1 (by rw [c1]; decide) (by rw [c1]; decide) (by rw [c1]; rfl) (by decide) ?_
      refine zi_aload_n dX11_amountOf_60 rfl rfl ?_
      refine zg_getF (k := 0) (v := .ref b) dX11_amountOf_61 zc11 rfl (Nat.le_of_ble_eq_true rfl) (Nat.le_of_ble_eq_true rfl) u_244 rfl (rfl) ?_
      refine zg_getI (k := 3) dX11_amountOf_64 zc4 hb.hl.sh hb.hl.l0 (Nat.le_of_ble_eq_true rfl) u_51 rfl ?_
      subst K
      exact zi_ireturn dX11_amountOf_67 rfl rfl
    · have K := K.2.2.2.2 c1
      refine zi_tableIn (off := 67) (tgt := 68) dX11_amountOf_1 (by rw [c1]; decide) (by rw [c1]; decide) (by rw [c1]; rfl) (by decide) ?_
      refine zi_aload_n dX11_amountOf_68 rfl rfl ?_
      refine zg_getF (k := 0) (v := .ref b) dX11_amountOf_69 zc11 rfl (Nat.le_of_ble_eq_true rfl) (Nat.le_of_ble_eq_true rfl) u_244 rfl (rfl) ?_
      refine zg_getI (k := 4) dX11_amountOf_72 zc4 hb.hl.sh hb.hl.l0 (Nat.le_of_ble_eq_true rfl) u_53 rfl ?_
      subst K
      exact zi_ireturn dX11_amountOf_75 rfl rfl
set_option maxRecDepth 100000 in
theorem tX11_downAt_0 {G : zG} {d b : Nat} {I : Nat → Nat → Int32} {L : Nat → Nat → Int64} {R : zR} {x1 : Int32} (hb : zbl b) (hR : zR0 R)
    (K : (vp_in x1 6 ∧ (vp_in ((x1 * 9) + (I b 0)) 54 ∧ R = (some (.int ((I (b + 5) (zx x1)) + (I 46 (zx ((x1 * 9) + (I b 0)))))), zh b I L)))) :
    zA G (d + 1) mX11_downAt 0 [some (.ref 0), some (.int x1)] [] (zh b I L) R := by
  refine zi_aload_n dX11_downAt_0 rfl rfl ?_
  refine zg_getF (k := 0) (v := .ref b) dX11_downAt_1 zc11 rfl (Nat.le_of_ble_eq_true rfl) (Nat.le_of_ble_eq_true rfl) u_244 rfl (rfl) ?_
  refine zg_getF (k := 9) (v := .ref (b + 5)) dX11_downAt_4 zc4 hb.hl.sh hb.hl.l0 (Nat.le_of_ble_eq_true rfl) u_72 rfl (hb.hl.f9) ?_
  refine zi_iload_n dX11_downAt_7 rfl rfl ?_
  have o1 := K.1
  have K := K.2
  refine zg_iaload dX11_downAt_8 (hb.hl.s5) (hb.hl.lt 5 (Nat.le_of_ble_eq_true rfl)) o1 ?_
  refine zi_aload_n dX11_downAt_9 rfl rfl ?_
  refine zg_getF (k := 5) (v := .ref 43) dX11_downAt_10 zc11 rfl (Nat.le_of_ble_eq_true rfl) (Nat.le_of_ble_eq_true rfl) u_249 rfl (rfl) ?_
  refine zg_getF (k := 2) (v := .ref 46) dX11_downAt_13 zc10 rfl (Nat.le_of_ble_eq_true rfl) (Nat.le_of_ble_eq_true rfl) u_177 rfl (rfl) ?_
  refine zi_iload_n dX11_downAt_16 rfl rfl ?_
  refine zi_aload_n dX11_downAt_17 rfl rfl ?_
  refine zg_getF (k := 0) (v := .ref b) dX11_downAt_18 zc11 rfl (Nat.le_of_ble_eq_true rfl) (Nat.le_of_ble_eq_true rfl) u_244 rfl (rfl) ?_
  refine zg_getI (k := 0) dX11_downAt_21 zc4 hb.hl.sh hb.hl.l0 (Nat.le_of_ble_eq_true rfl) u_41 rfl ?_
  refine zi_callS (N := mX11_onWay) (av := [.int x1, .int (I b 0)]) (st := [.ref 46, .int (I (b + 5) (zx x1))]) (R1 := (some (.int ((x1 * 9) + (I b 0))), zh b I L)) dX11_downAt_24 okX11_onWay u_557 u_516 arX11_onWay rfl (Nat.le_of_ble_eq_true rfl) (kX11_onWay _ _) hR ?_
  show zA G (d + 1) mX11_downAt 27 [some (.ref 0), some (.int x1)] [.int ((x1 * 9) + (I b 0)), .ref 46, .int (I (b + 5) (zx x1))] (zh b I L) R
  have o2 := K.1
  have K := K.2
  refine zg_iaload dX11_downAt_27 (rfl) (Nat.le_of_ble_eq_true rfl) o2 ?_
  refine zi_iadd dX11_downAt_28 ?_
  subst K
  exact zi_ireturn dX11_downAt_29 rfl rfl
set_option maxRecDepth 100000 in
theorem tX11_costOfFall_0 {G : zG} {d b : Nat} {I : Nat → Nat → Int32} {L : Nat → Nat → Int64} {R : zR} {x1 : Int32} {x2 : Int32} {x3 : Int32} (hb : zbl b) (hR : zR0 R)
    (K : (∃ (I1 : Nat → Nat → Int32), zCall (d + 4) mX10_follow [.ref 43, .ref b, .ref 37, .int x1, .int x3] (zh b I L) (none, zh b I1 L) ∧ (vp_in ((x1 * 9) + (I1 b 0)) 54 ∧ (∃ (r4 : Int32), zCall (d + 4) mX10_harmInAll [.ref 43, .int x1, .int (I1 b 0)] (zh b I1 L) (some (.int r4), zh b I1 L) ∧ R = (some (.int ((I1 46 (zx ((x1 * 9) + (I1 b 0)))) + (x2 * r4))), zh b I1 L))))) :
    zA G (d + 5) mX11_costOfFall 0 [some (.ref 0), some (.int x1), some (.int x2), some (.int x3)] [] (zh b I L) R := by
  refine zi_aload_n dX11_costOfFall_0 rfl rfl ?_
  refine zg_getF (k := 5) (v := .ref 43) dX11_costOfFall_1 zc11 rfl (Nat.le_of_ble_eq_true rfl) (Nat.le_of_ble_eq_true rfl) u_249 rfl (rfl) ?_
  refine zi_aload_n dX11_costOfFall_4 rfl rfl ?_
  refine zg_getF (k := 0) (v := .ref b) dX11_costOfFall_5 zc11 rfl (Nat.le_of_ble_eq_true rfl) (Nat.le_of_ble_eq_true rfl) u_244 rfl (rfl) ?_
  refine zi_aload_n dX11_costOfFall_8 rfl rfl ?_
  refine zg_getF (k := 4) (v := .ref 37) dX11_costOfFall_9 zc11 rfl (Nat.le_of_ble_eq_true rfl) (Nat.le_of_ble_eq_true rfl) u_248 rfl (rfl) ?_
  refine zi_iload_n dX11_costOfFall_12 rfl rfl ?_
  refine zi_iload_n dX11_costOfFall_13 rfl rfl ?_
  obtain ⟨I1, h2, K⟩ := K
  refine zi_callV (N := mX10_follow) (av := [.ref b, .ref 37, .int x1, .int x3]) (st := []) (R1 := (none, zh b I1 L)) dX11_costOfFall_14 okX10_follow u_469 u_470 u_471 zc10 (rfl) (Nat.le_of_ble_eq_true rfl) arX10_follow rfl (Nat.le_of_ble_eq_true rfl) (h2) hR ?_
  show zA G (d + 5) mX11_costOfFall 17 [some (.ref 0), some (.int x1), some (.int x2), some (.int x3)] [] (zh b I1 L) R
  refine zi_aload_n dX11_costOfFall_17 rfl rfl ?_
  refine zg_getF (k := 5) (v := .ref 43) dX11_costOfFall_18 zc11 rfl (Nat.le_of_ble_eq_true rfl) (Nat.le_of_ble_eq_true rfl) u_249 rfl (rfl) ?_
  refine zg_getF (k := 2) (v := .ref 46) dX11_costOfFall_21 zc10 rfl (Nat.le_of_ble_eq_true rfl) (Nat.le_of_ble_eq_true rfl) u_177 rfl (rfl) ?_
  refine zi_iload_n dX11_costOfFall_24 rfl rfl ?_
  refine zi_aload_n dX11_costOfFall_25 rfl rfl ?_
  refine zg_getF (k := 0) (v := .ref b) dX11_costOfFall_26 zc11 rfl (Nat.le_of_ble_eq_true rfl) (Nat.le_of_ble_eq_true rfl) u_244 rfl (rfl) ?_
  refine zg_getI (k := 0) dX11_costOfFall_29 zc4 hb.hl.sh hb.hl.l0 (Nat.le_of_ble_eq_true rfl) u_41 rfl ?_
  refine zi_callS (N := mX11_onWay) (av := [.int x1, .int (I1 b 0)]) (st := [.ref 46]) (R1 := (some (.int ((x1 * 9) + (I1 b 0))), zh b I1 L)) dX11_costOfFall_32 okX11_onWay u_557 u_516 arX11_onWay rfl (Nat.le_of_ble_eq_true rfl) (kX11_onWay _ _) hR ?_
  show zA G (d + 5) mX11_costOfFall 35 [some (.ref 0), some (.int x1), some (.int x2), some (.int x3)] [.int ((x1 * 9) + (I1 b 0)), .ref 46] (zh b I1 L) R
  have o3 := K.1
  have K := K.2
  refine zg_iaload dX11_costOfFall_35 (rfl) (Nat.le_of_ble_eq_true rfl) o3 ?_
  refine zi_iload_n dX11_costOfFall_36 rfl rfl ?_
  refine zi_aload_n dX11_costOfFall_37 rfl rfl ?_
  refine zg_getF (k := 5) (v := .ref 43) dX11_costOfFall_38 zc11 rfl (Nat.le_of_ble_eq_true rfl) (Nat.le_of_ble_eq_true rfl) u_249 rfl (rfl) ?_
  refine zi_iload_n dX11_costOfFall_41 rfl rfl ?_
  refine zi_aload_n dX11_costOfFall_42 rfl rfl ?_
  refine zg_getF (k := 0) (v := .ref b) dX11_costOfFall_43 zc11 rfl (Nat.le_of_ble_eq_true rfl) (Nat.le_of_ble_eq_true rfl) u_244 rfl (rfl) ?_
  refine zg_getI (k := 0) dX11_costOfFall_46 zc4 hb.hl.sh hb.hl.l0 (Nat.le_of_ble_eq_true rfl) u_41 rfl ?_
  obtain ⟨r4, h5, K⟩ := K
  refine zi_callV (N := mX10_harmInAll) (av := [.int x1, .int (I1 b 0)]) (st := [.int x2, .int (I1 46 (zx ((x1 * 9) + (I1 b 0))))]) (R1 := (some (.int r4), zh b I1 L)) dX11_costOfFall_49 okX10_harmInAll u_566 u_567 u_568 zc10 (rfl) (Nat.le_of_ble_eq_true rfl) arX10_harmInAll rfl (Nat.le_of_ble_eq_true rfl) (h5) hR ?_
  show zA G (d + 5) mX11_costOfFall 52 [some (.ref 0), some (.int x1), some (.int x2), some (.int x3)] [.int r4, .int x2, .int (I1 46 (zx ((x1 * 9) + (I1 b 0))))] (zh b I1 L) R
  refine zi_imul dX11_costOfFall_52 ?_
  refine zi_iadd dX11_costOfFall_53 ?_
  subst K
  exact zi_ireturn dX11_costOfFall_54 rfl rfl
set_option maxRecDepth 100000 in
theorem tX11_runnerInPlace_0 {G : zG} {d b : Nat} {I : Nat → Nat → Int32} {L : Nat → Nat → Int64} {R : zR} {x1 : Int32}
    (K : zA G (d + 2) mX11_runnerInPlace 2 [some (.ref 0), some (.int x1), some (.int 0), none, none] [] (zh b I L) R) :
    zA G (d + 2) mX11_runnerInPlace 0 [some (.ref 0), some (.int x1), none, none, none] [] (zh b I L) R := by
  refine zi_iconst (v := 0) dX11_runnerInPlace_0 (by decide) ?_
  refine zi_istore_n (ls' := [some (.ref 0), some (.int x1), some (.int 0), none, none]) dX11_runnerInPlace_1 rfl (by decide) rfl ?_
  exact K
set_option maxRecDepth 100000 in
theorem tX11_runnerInPlace_2 {G : zG} {d b : Nat} {I : Nat → Nat → Int32} {L : Nat → Nat → Int64} {R : zR} {x1 : Int32} {x2 : Int32} (hb : zbl b)
    (K : (((I b 2) ≤ x2 → R = (some (.int (-1)), zh b I L)) ∧ (¬ (I b 2) ≤ x2 → zA G (d + 2) mX11_runnerInPlace 18 [some (.ref 0), some (.int x1), some (.int x2), some (.int 0), some (.int 0)] [] (zh b I L) R))) :
    zA G (d + 2) mX11_runnerInPlace 2 [some (.ref 0), some (.int x1), some (.int x2), none, none] [] (zh b I L) R := by
  refine zi_iload_n dX11_runnerInPlace_2 rfl rfl ?_
  refine zi_aload_n dX11_runnerInPlace_3 rfl rfl ?_
  refine zg_getF (k := 0) (v := .ref b) dX11_runnerInPlace_4 zc11 rfl (Nat.le_of_ble_eq_true rfl) (Nat.le_of_ble_eq_true rfl) u_244 rfl (rfl) ?_
  refine zg_getI (k := 2) dX11_runnerInPlace_7 zc4 hb.hl.sh hb.hl.l0 (Nat.le_of_ble_eq_true rfl) u_48 rfl ?_
  refine zi_icmp_ge (tgt := 86) dX11_runnerInPlace_10 (by decide) (fun c1 => ?_) (fun c1 => ?_)
  · have K := K.1 c1
    refine zi_iconst (v := (-1)) dX11_runnerInPlace_86 (by decide) ?_
    subst K
    exact zi_ireturn dX11_runnerInPlace_87 rfl rfl
  · have K := K.2 c1
    refine zi_iconst (v := 0) dX11_runnerInPlace_13 (by decide) ?_
    refine zi_istore_n (ls' := [some (.ref 0), some (.int x1), some (.int x2), some (.int 0), none]) dX11_runnerInPlace_14 rfl (by decide) rfl ?_
    refine zi_iconst (v := 0) dX11_runnerInPlace_15 (by decide) ?_
    refine zi_istore (ls' := [some (.ref 0), some (.int x1), some (.int x2), some (.int 0), some (.int 0)]) dX11_runnerInPlace_16 (by decide) rfl ?_
    exact K
set_option maxRecDepth 100000 in
theorem tX11_runnerInPlace_18 {G : zG} {d b : Nat} {I : Nat → Nat → Int32} {L : Nat → Nat → Int64} {R : zR} {x1 : Int32} {x2 : Int32} {x3 : Int32} {x4 : Int32} (hb : zbl b) (hR : zR0 R)
    (K : (((I b 2) ≤ x4 → ((¬ x3 = x1 → zA G (d + 2) mX11_runnerInPlace 2 [some (.ref 0), some (.int x1), some (.int (x2 + 1)), none, none] [] (zh b I L) R) ∧ (x3 = x1 → R = (some (.int x2), zh b I L)))) ∧ (¬ (I b 2) ≤ x4 → (∃ (r3 : Int32), zCall (d + 1) mX11_downAt [.ref 0, .int x4] (zh b I L) (some (.int r3), zh b I L) ∧ (∃ (r5 : Int32), zCall (d + 1) mX11_downAt [.ref 0, .int x2] (zh b I L) (some (.int r5), zh b I L) ∧ ((r3 < r5 → zA G (d + 2) mX11_runnerInPlace 18 [some (.ref 0), some (.int x1), some (.int x2), some (.int (x3 + 1)), some (.int (x4 + 1))] [] (zh b I L) R) ∧ (¬ r3 < r5 → (∃ (r8 : Int32), zCall (d + 1) mX11_downAt [.ref 0, .int x4] (zh b I L) (some (.int r8), zh b I L) ∧ (∃ (r10 : Int32), zCall (d + 1) mX11_downAt [.ref 0, .int x2] (zh b I L) (some (.int r10), zh b I L) ∧ ((¬ r8 = r10 → zA G (d + 2) mX11_runnerInPlace 18 [some (.ref 0), some (.int x1), some (.int x2), some (.int x3), some (.int (x4 + 1))] [] (zh b I L) R) ∧ (r8 = r10 → ((x2 ≤ x4 → zA G (d + 2) mX11_runnerInPlace 18 [some (.ref 0), some (.int x1), some (.int x2), some (.int x3), some (.int (x4 + 1))] [] (zh b I L) R) ∧ (¬ x2 ≤ x4 → zA G (d + 2) mX11_runnerInPlace 18 [some (.ref 0), some (.int x1), some (.int x2), some (.int (x3 + 1)), some (.int (x4 + 1))] [] (zh b I L) R))))))))))))) :
    zA G (d + 2) mX11_runnerInPlace 18 [some (.ref 0), some (.int x1), some (.int x2), some (.int x3), some (.int x4)] [] (zh b I L) R := by
  refine zi_iload dX11_runnerInPlace_18 rfl ?_
  refine zi_aload_n dX11_runnerInPlace_20 rfl rfl ?_
  refine zg_getF (k := 0) (v := .ref b) dX11_runnerInPlace_21 zc11 rfl (Nat.le_of_ble_eq_true rfl) (Nat.le_of_ble_eq_true rfl) u_244 rfl (rfl) ?_
  refine zg_getI (k := 2) dX11_runnerInPlace_24 zc4 hb.hl.sh hb.hl.l0 (Nat.le_of_ble_eq_true rfl) u_48 rfl ?_
  refine zi_icmp_ge (tgt := 73) dX11_runnerInPlace_27 (by decide) (fun c1 => ?_) (fun c1 => ?_)
  · have K := K.1 c1
    refine zi_iload_n dX11_runnerInPlace_73 rfl rfl ?_
    refine zi_iload_n dX11_runnerInPlace_74 rfl rfl ?_
    refine zi_icmp_ne (tgt := 80) dX11_runnerInPlace_75 (by decide) (fun c2 => ?_) (fun c2 => ?_)
    · have K := K.1 c2
      refine zi_iinc (v := x2 + 1) (ls' := [some (.ref 0), some (.int x1), some (.int (x2 + 1)), some (.int x3), some (.int x4)]) dX11_runnerInPlace_80 rfl (by decide) rfl rfl ?_
      refine zi_goto (tgt := 2) dX11_runnerInPlace_83 (by decide) ?_
      refine zi_mask [true, true, true, false, false] rfl ?_
      exact K
    · have K := K.2 c2
      refine zi_iload_n dX11_runnerInPlace_78 rfl rfl ?_
      subst K
      exact zi_ireturn dX11_runnerInPlace_79 rfl rfl
  · have K := K.2 c1
    refine zi_aload_n dX11_runnerInPlace_30 rfl rfl ?_
    refine zi_iload dX11_runnerInPlace_31 rfl ?_
    obtain ⟨r3, h4, K⟩ := K
    refine zi_callV (N := mX11_downAt) (av := [.int x4]) (st := []) (R1 := (some (.int r3), zh b I L)) dX11_runnerInPlace_33 okX11_downAt u_562 u_564 s_11 zc11 (rfl) (Nat.le_of_ble_eq_true rfl) arX11_downAt rfl (Nat.le_of_ble_eq_true rfl) (h4) hR ?_
    show zA G (d + 2) mX11_runnerInPlace 36 [some (.ref 0), some (.int x1), some (.int x2), some (.int x3), some (.int x4)] [.int r3] (zh b I L) R
    refine zi_aload_n dX11_runnerInPlace_36 rfl rfl ?_
    refine zi_iload_n dX11_runnerInPlace_37 rfl rfl ?_
    obtain ⟨r5, h6, K⟩ := K
    refine zi_callV (N := mX11_downAt) (av := [.int x2]) (st := [.int r3]) (R1 := (some (.int r5), zh b I L)) dX11_runnerInPlace_38 okX11_downAt u_562 u_564 s_11 zc11 (rfl) (Nat.le_of_ble_eq_true rfl) arX11_downAt rfl (Nat.le_of_ble_eq_true rfl) (h6) hR ?_
    show zA G (d + 2) mX11_runnerInPlace 41 [some (.ref 0), some (.int x1), some (.int x2), some (.int x3), some (.int x4)] [.int r5, .int r3] (zh b I L) R
    refine zi_icmp_lt (tgt := 64) dX11_runnerInPlace_41 (by decide) (fun c7 => ?_) (fun c7 => ?_)
    · have K := K.1 c7
      refine zi_iinc (v := x3 + 1) (ls' := [some (.ref 0), some (.int x1), some (.int x2), some (.int (x3 + 1)), some (.int x4)]) dX11_runnerInPlace_64 rfl (by decide) rfl rfl ?_
      refine zi_iinc (v := x4 + 1) (ls' := [some (.ref 0), some (.int x1), some (.int x2), some (.int (x3 + 1)), some (.int (x4 + 1))]) dX11_runnerInPlace_67 rfl (by decide) rfl rfl ?_
      refine zi_goto (tgt := 18) dX11_runnerInPlace_70 (by decide) ?_
      exact K
    · have K := K.2 c7
      refine zi_aload_n dX11_runnerInPlace_44 rfl rfl ?_
      refine zi_iload dX11_runnerInPlace_45 rfl ?_
      obtain ⟨r8, h9, K⟩ := K
      refine zi_callV (N := mX11_downAt) (av := [.int x4]) (st := []) (R1 := (some (.int r8), zh b I L)) dX11_runnerInPlace_47 okX11_downAt u_562 u_564 s_11 zc11 (rfl) (Nat.le_of_ble_eq_true rfl) arX11_downAt rfl (Nat.le_of_ble_eq_true rfl) (h9) hR ?_
      show zA G (d + 2) mX11_runnerInPlace 50 [some (.ref 0), some (.int x1), some (.int x2), some (.int x3), some (.int x4)] [.int r8] (zh b I L) R
      refine zi_aload_n dX11_runnerInPlace_50 rfl rfl ?_
      refine zi_iload_n dX11_runnerInPlace_51 rfl rfl ?_
      obtain ⟨r10, h11, K⟩ := K
      refine zi_callV (N := mX11_downAt) (av := [.int x2]) (st := [.int r8]) (R1 := (some (.int r10), zh b I L)) dX11_runnerInPlace_52 okX11_downAt u_562 u_564 s_11 zc11 (rfl) (Nat.le_of_ble_eq_true rfl) arX11_downAt rfl (Nat.le_of_ble_eq_true rfl) (h11) hR ?_
      show zA G (d + 2) mX11_runnerInPlace 55 [some (.ref 0), some (.int x1), some (.int x2), some (.int x3), some (.int x4)] [.int r10, .int r8] (zh b I L) R
      refine zi_icmp_ne (tgt := 67) dX11_runnerInPlace_55 (by decide) (fun c12 => ?_) (fun c12 => ?_)
      · have K := K.1 c12
        refine zi_iinc (v := x4 + 1) (ls' := [some (.ref 0), some (.int x1), some (.int x2), some (.int x3), some (.int (x4 + 1))]) dX11_runnerInPlace_67 rfl (by decide) rfl rfl ?_
        refine zi_goto (tgt := 18) dX11_runnerInPlace_70 (by decide) ?_
        exact K
      · have K := K.2 c12
        refine zi_iload dX11_runnerInPlace_58 rfl ?_
        refine zi_iload_n dX11_runnerInPlace_60 rfl rfl ?_
        refine zi_icmp_ge (tgt := 67) dX11_runnerInPlace_61 (by decide) (fun c13 => ?_) (fun c13 => ?_)
        · have K := K.1 c13
          refine zi_iinc (v := x4 + 1) (ls' := [some (.ref 0), some (.int x1), some (.int x2), some (.int x3), some (.int (x4 + 1))]) dX11_runnerInPlace_67 rfl (by decide) rfl rfl ?_
          refine zi_goto (tgt := 18) dX11_runnerInPlace_70 (by decide) ?_
          exact K
        · have K := K.2 c13
          refine zi_iinc (v := x3 + 1) (ls' := [some (.ref 0), some (.int x1), some (.int x2), some (.int (x3 + 1)), some (.int x4)]) dX11_runnerInPlace_64 rfl (by decide) rfl rfl ?_
          refine zi_iinc (v := x4 + 1) (ls' := [some (.ref 0), some (.int x1), some (.int x2), some (.int (x3 + 1)), some (.int (x4 + 1))]) dX11_runnerInPlace_67 rfl (by decide) rfl rfl ?_
          refine zi_goto (tgt := 18) dX11_runnerInPlace_70 (by decide) ?_
          exact K
set_option maxRecDepth 100000 in
theorem tX11_anyMeetWhenApart_0 {G : zG} {d b : Nat} {I : Nat → Nat → Int32} {L : Nat → Nat → Int64} {R : zR} {x1 : Int32}
    (K : zA G (d + 2) mX11_anyMeetWhenApart 2 [some (.ref 0), some (.int x1), some (.int 0), none] [] (zh b I L) R) :
    zA G (d + 2) mX11_anyMeetWhenApart 0 [some (.ref 0), some (.int x1), none, none] [] (zh b I L) R := by
  refine zi_iconst (v := 0) dX11_anyMeetWhenApart_0 (by decide) ?_
  refine zi_istore_n (ls' := [some (.ref 0), some (.int x1), some (.int 0), none]) dX11_anyMeetWhenApart_1 rfl (by decide) rfl ?_
  exact K
set_option maxRecDepth 100000 in
theorem tX11_anyMeetWhenApart_2 {G : zG} {d b : Nat} {I : Nat → Nat → Int32} {L : Nat → Nat → Int64} {R : zR} {x1 : Int32} {x2 : Int32} (hb : zbl b)
    (K : (((I b 2) ≤ x2 → R = (some (.int 0), zh b I L)) ∧ (¬ (I b 2) ≤ x2 → zA G (d + 2) mX11_anyMeetWhenApart 17 [some (.ref 0), some (.int x1), some (.int x2), some (.int (x2 + 1))] [] (zh b I L) R))) :
    zA G (d + 2) mX11_anyMeetWhenApart 2 [some (.ref 0), some (.int x1), some (.int x2), none] [] (zh b I L) R := by
  refine zi_iload_n dX11_anyMeetWhenApart_2 rfl rfl ?_
  refine zi_aload_n dX11_anyMeetWhenApart_3 rfl rfl ?_
  refine zg_getF (k := 0) (v := .ref b) dX11_anyMeetWhenApart_4 zc11 rfl (Nat.le_of_ble_eq_true rfl) (Nat.le_of_ble_eq_true rfl) u_244 rfl (rfl) ?_
  refine zg_getI (k := 2) dX11_anyMeetWhenApart_7 zc4 hb.hl.sh hb.hl.l0 (Nat.le_of_ble_eq_true rfl) u_48 rfl ?_
  refine zi_icmp_ge (tgt := 66) dX11_anyMeetWhenApart_10 (by decide) (fun c1 => ?_) (fun c1 => ?_)
  · have K := K.1 c1
    refine zi_iconst (v := 0) dX11_anyMeetWhenApart_66 (by decide) ?_
    subst K
    exact zi_ireturn dX11_anyMeetWhenApart_67 rfl (by decide)
  · have K := K.2 c1
    refine zi_iload_n dX11_anyMeetWhenApart_13 rfl rfl ?_
    refine zi_iconst (v := 1) dX11_anyMeetWhenApart_14 (by decide) ?_
    refine zi_iadd dX11_anyMeetWhenApart_15 ?_
    refine zi_istore_n (ls' := [some (.ref 0), some (.int x1), some (.int x2), some (.int (x2 + 1))]) dX11_anyMeetWhenApart_16 rfl (by decide) rfl ?_
    exact K
set_option maxRecDepth 100000 in
theorem tX11_anyMeetWhenApart_17 {G : zG} {d b : Nat} {I : Nat → Nat → Int32} {L : Nat → Nat → Int64} {R : zR} {x1 : Int32} {x2 : Int32} {x3 : Int32} (hb : zbl b) (hR : zR0 R)
    (K : (((I b 2) ≤ x3 → zA G (d + 2) mX11_anyMeetWhenApart 2 [some (.ref 0), some (.int x1), some (.int (x2 + 1)), none] [] (zh b I L) R) ∧ (¬ (I b 2) ≤ x3 → (∃ (r2 : Bool), zCall (d + 1) mX10_meet [.ref 43, .int x2, .int x3, .int ((x3 - x2) * x1), .int (I b 0)] (zh b I L) (some (.int (zB r2)), zh b I L) ∧ ((r2 = false → zA G (d + 2) mX11_anyMeetWhenApart 17 [some (.ref 0), some (.int x1), some (.int x2), some (.int (x3 + 1))] [] (zh b I L) R) ∧ (r2 = true → R = (some (.int 1), zh b I L))))))) :
    zA G (d + 2) mX11_anyMeetWhenApart 17 [some (.ref 0), some (.int x1), some (.int x2), some (.int x3)] [] (zh b I L) R := by
  refine zi_iload_n dX11_anyMeetWhenApart_17 rfl rfl ?_
  refine zi_aload_n dX11_anyMeetWhenApart_18 rfl rfl ?_
  refine zg_getF (k := 0) (v := .ref b) dX11_anyMeetWhenApart_19 zc11 rfl (Nat.le_of_ble_eq_true rfl) (Nat.le_of_ble_eq_true rfl) u_244 rfl (rfl) ?_
  refine zg_getI (k := 2) dX11_anyMeetWhenApart_22 zc4 hb.hl.sh hb.hl.l0 (Nat.le_of_ble_eq_true rfl) u_48 rfl ?_
  refine zi_icmp_ge (tgt := 60) dX11_anyMeetWhenApart_25 (by decide) (fun c1 => ?_) (fun c1 => ?_)
  · have K := K.1 c1
    refine zi_iinc (v := x2 + 1) (ls' := [some (.ref 0), some (.int x1), some (.int (x2 + 1)), some (.int x3)]) dX11_anyMeetWhenApart_60 rfl (by decide) rfl rfl ?_
    refine zi_goto (tgt := 2) dX11_anyMeetWhenApart_63 (by decide) ?_
    refine zi_mask [true, true, true, false] rfl ?_
    exact K
  · have K := K.2 c1
    refine zi_aload_n dX11_anyMeetWhenApart_28 rfl rfl ?_
    refine zg_getF (k := 5) (v := .ref 43) dX11_anyMeetWhenApart_29 zc11 rfl (Nat.le_of_ble_eq_true rfl) (Nat.le_of_ble_eq_true rfl) u_249 rfl (rfl) ?_
    refine zi_iload_n dX11_anyMeetWhenApart_32 rfl rfl ?_
    refine zi_iload_n dX11_anyMeetWhenApart_33 rfl rfl ?_
    refine zi_iload_n dX11_anyMeetWhenApart_34 rfl rfl ?_
    refine zi_iload_n dX11_anyMeetWhenApart_35 rfl rfl ?_
    refine zi_isub dX11_anyMeetWhenApart_36 ?_
    refine zi_iload_n dX11_anyMeetWhenApart_37 rfl rfl ?_
    refine zi_imul dX11_anyMeetWhenApart_38 ?_
    refine zi_aload_n dX11_anyMeetWhenApart_39 rfl rfl ?_
    refine zg_getF (k := 0) (v := .ref b) dX11_anyMeetWhenApart_40 zc11 rfl (Nat.le_of_ble_eq_true rfl) (Nat.le_of_ble_eq_true rfl) u_244 rfl (rfl) ?_
    refine zg_getI (k := 0) dX11_anyMeetWhenApart_43 zc4 hb.hl.sh hb.hl.l0 (Nat.le_of_ble_eq_true rfl) u_41 rfl ?_
    obtain ⟨r2, h3, K⟩ := K
    refine zi_callV (N := mX10_meet) (av := [.int x2, .int x3, .int ((x3 - x2) * x1), .int (I b 0)]) (st := []) (R1 := (some (.int (zB r2)), zh b I L)) dX11_anyMeetWhenApart_46 okX10_meet u_622 u_623 u_624 zc10 (rfl) (Nat.le_of_ble_eq_true rfl) arX10_meet rfl (Nat.le_of_ble_eq_true rfl) (h3) hR ?_
    show zA G (d + 2) mX11_anyMeetWhenApart 49 [some (.ref 0), some (.int x1), some (.int x2), some (.int x3)] [.int (zB r2)] (zh b I L) R
    refine zi_if_eq (tgt := 54) dX11_anyMeetWhenApart_49 (by decide) (fun c4 => ?_) (fun c4 => ?_)
    · have K := K.1 (zB_0 c4)
      refine zi_iinc (v := x3 + 1) (ls' := [some (.ref 0), some (.int x1), some (.int x2), some (.int (x3 + 1))]) dX11_anyMeetWhenApart_54 rfl (by decide) rfl rfl ?_
      refine zi_goto (tgt := 17) dX11_anyMeetWhenApart_57 (by decide) ?_
      exact K
    · have K := K.2 (zB_1 c4)
      refine zi_iconst (v := 1) dX11_anyMeetWhenApart_52 (by decide) ?_
      subst K
      exact zi_ireturn dX11_anyMeetWhenApart_53 rfl (by decide)
set_option maxRecDepth 100000 in
theorem tX11_harmOfAll_0 {G : zG} {d b : Nat} {I : Nat → Nat → Int32} {L : Nat → Nat → Int64} {R : zR} 
    (K : zA G (d + 5) mX11_harmOfAll 4 [some (.ref 0), some (.int 0), some (.int 0)] [] (zh b I L) R) :
    zA G (d + 5) mX11_harmOfAll 0 [some (.ref 0), none, none] [] (zh b I L) R := by
  refine zi_iconst (v := 0) dX11_harmOfAll_0 (by decide) ?_
  refine zi_istore_n (ls' := [some (.ref 0), some (.int 0), none]) dX11_harmOfAll_1 rfl (by decide) rfl ?_
  refine zi_iconst (v := 0) dX11_harmOfAll_2 (by decide) ?_
  refine zi_istore_n (ls' := [some (.ref 0), some (.int 0), some (.int 0)]) dX11_harmOfAll_3 rfl (by decide) rfl ?_
  exact K
set_option maxRecDepth 100000 in
theorem tX11_harmOfAll_4 {G : zG} {d b : Nat} {I : Nat → Nat → Int32} {L : Nat → Nat → Int64} {R : zR} {x1 : Int32} {x2 : Int32} (hb : zbl b) (hR : zR0 R)
    (K : (((I b 2) ≤ x2 → R = (some (.int x1), zh b I L)) ∧ (¬ (I b 2) ≤ x2 → (∃ (I2 : Nat → Nat → Int32), zCall (d + 4) mX10_follow [.ref 43, .ref b, .ref 37, .int x2, .int 8] (zh b I L) (none, zh b I2 L) ∧ (∃ (r4 : Int32), zCall (d + 4) mX10_harmInAll [.ref 43, .int x2, .int (I2 b 0)] (zh b I2 L) (some (.int r4), zh b I2 L) ∧ zA G (d + 5) mX11_harmOfAll 4 [some (.ref 0), some (.int (x1 + r4)), some (.int (x2 + 1))] [] (zh b I2 L) R))))) :
    zA G (d + 5) mX11_harmOfAll 4 [some (.ref 0), some (.int x1), some (.int x2)] [] (zh b I L) R := by
  refine zi_iload_n dX11_harmOfAll_4 rfl rfl ?_
  refine zi_aload_n dX11_harmOfAll_5 rfl rfl ?_
  refine zg_getF (k := 0) (v := .ref b) dX11_harmOfAll_6 zc11 rfl (Nat.le_of_ble_eq_true rfl) (Nat.le_of_ble_eq_true rfl) u_244 rfl (rfl) ?_
  refine zg_getI (k := 2) dX11_harmOfAll_9 zc4 hb.hl.sh hb.hl.l0 (Nat.le_of_ble_eq_true rfl) u_48 rfl ?_
  refine zi_icmp_ge (tgt := 57) dX11_harmOfAll_12 (by decide) (fun c1 => ?_) (fun c1 => ?_)
  · have K := K.1 c1
    refine zi_iload_n dX11_harmOfAll_57 rfl rfl ?_
    subst K
    exact zi_ireturn dX11_harmOfAll_58 rfl rfl
  · have K := K.2 c1
    refine zi_aload_n dX11_harmOfAll_15 rfl rfl ?_
    refine zg_getF (k := 5) (v := .ref 43) dX11_harmOfAll_16 zc11 rfl (Nat.le_of_ble_eq_true rfl) (Nat.le_of_ble_eq_true rfl) u_249 rfl (rfl) ?_
    refine zi_aload_n dX11_harmOfAll_19 rfl rfl ?_
    refine zg_getF (k := 0) (v := .ref b) dX11_harmOfAll_20 zc11 rfl (Nat.le_of_ble_eq_true rfl) (Nat.le_of_ble_eq_true rfl) u_244 rfl (rfl) ?_
    refine zi_aload_n dX11_harmOfAll_23 rfl rfl ?_
    refine zg_getF (k := 4) (v := .ref 37) dX11_harmOfAll_24 zc11 rfl (Nat.le_of_ble_eq_true rfl) (Nat.le_of_ble_eq_true rfl) u_248 rfl (rfl) ?_
    refine zi_iload_n dX11_harmOfAll_27 rfl rfl ?_
    refine zi_bipush (v := 8) dX11_harmOfAll_28 (by decide) ?_
    obtain ⟨I2, h3, K⟩ := K
    refine zi_callV (N := mX10_follow) (av := [.ref b, .ref 37, .int x2, .int 8]) (st := []) (R1 := (none, zh b I2 L)) dX11_harmOfAll_30 okX10_follow u_469 u_470 u_471 zc10 (rfl) (Nat.le_of_ble_eq_true rfl) arX10_follow rfl (Nat.le_of_ble_eq_true rfl) (h3) hR ?_
    show zA G (d + 5) mX11_harmOfAll 33 [some (.ref 0), some (.int x1), some (.int x2)] [] (zh b I2 L) R
    refine zi_iload_n dX11_harmOfAll_33 rfl rfl ?_
    refine zi_aload_n dX11_harmOfAll_34 rfl rfl ?_
    refine zg_getF (k := 5) (v := .ref 43) dX11_harmOfAll_35 zc11 rfl (Nat.le_of_ble_eq_true rfl) (Nat.le_of_ble_eq_true rfl) u_249 rfl (rfl) ?_
    refine zi_iload_n dX11_harmOfAll_38 rfl rfl ?_
    refine zi_aload_n dX11_harmOfAll_39 rfl rfl ?_
    refine zg_getF (k := 0) (v := .ref b) dX11_harmOfAll_40 zc11 rfl (Nat.le_of_ble_eq_true rfl) (Nat.le_of_ble_eq_true rfl) u_244 rfl (rfl) ?_
    refine zg_getI (k := 0) dX11_harmOfAll_43 zc4 hb.hl.sh hb.hl.l0 (Nat.le_of_ble_eq_true rfl) u_41 rfl ?_
    obtain ⟨r4, h5, K⟩ := K
    refine zi_callV (N := mX10_harmInAll) (av := [.int x2, .int (I2 b 0)]) (st := [.int x1]) (R1 := (some (.int r4), zh b I2 L)) dX11_harmOfAll_46 okX10_harmInAll u_566 u_567 u_568 zc10 (rfl) (Nat.le_of_ble_eq_true rfl) arX10_harmInAll rfl (Nat.le_of_ble_eq_true rfl) (h5) hR ?_
    show zA G (d + 5) mX11_harmOfAll 49 [some (.ref 0), some (.int x1), some (.int x2)] [.int r4, .int x1] (zh b I2 L) R
    refine zi_iadd dX11_harmOfAll_49 ?_
    refine zi_istore_n (ls' := [some (.ref 0), some (.int (x1 + r4)), some (.int x2)]) dX11_harmOfAll_50 rfl (by decide) rfl ?_
    refine zi_iinc (v := x2 + 1) (ls' := [some (.ref 0), some (.int (x1 + r4)), some (.int (x2 + 1))]) dX11_harmOfAll_51 rfl (by decide) rfl rfl ?_
    refine zi_goto (tgt := 4) dX11_harmOfAll_54 (by decide) ?_
    exact K
set_option maxRecDepth 100000 in
theorem tX11_wearSlopes_0 {G : zG} {d b : Nat} {I : Nat → Nat → Int32} {L : Nat → Nat → Int64} {R : zR} 
    (K : zA G (d + 2) mX11_wearSlopes 2 [some (.ref 0), some (.int 0), none] [] (zh b I L) R) :
    zA G (d + 2) mX11_wearSlopes 0 [some (.ref 0), none, none] [] (zh b I L) R := by
  refine zi_iconst (v := 0) dX11_wearSlopes_0 (by decide) ?_
  refine zi_istore_n (ls' := [some (.ref 0), some (.int 0), none]) dX11_wearSlopes_1 rfl (by decide) rfl ?_
  exact K
set_option maxRecDepth 100000 in
theorem tX11_wearSlopes_2 {G : zG} {d b : Nat} {I : Nat → Nat → Int32} {L : Nat → Nat → Int64} {R : zR} {x1 : Int32} (hb : zbl b)
    (K : (((I b 0) ≤ x1 → R = (none, zh b I L)) ∧ (¬ (I b 0) ≤ x1 → zA G (d + 2) mX11_wearSlopes 15 [some (.ref 0), some (.int x1), some (.int 0)] [] (zh b I L) R))) :
    zA G (d + 2) mX11_wearSlopes 2 [some (.ref 0), some (.int x1), none] [] (zh b I L) R := by
  refine zi_iload_n dX11_wearSlopes_2 rfl rfl ?_
  refine zi_aload_n dX11_wearSlopes_3 rfl rfl ?_
  refine zg_getF (k := 0) (v := .ref b) dX11_wearSlopes_4 zc11 rfl (Nat.le_of_ble_eq_true rfl) (Nat.le_of_ble_eq_true rfl) u_244 rfl (rfl) ?_
  refine zg_getI (k := 0) dX11_wearSlopes_7 zc4 hb.hl.sh hb.hl.l0 (Nat.le_of_ble_eq_true rfl) u_41 rfl ?_
  refine zi_icmp_ge (tgt := 91) dX11_wearSlopes_10 (by decide) (fun c1 => ?_) (fun c1 => ?_)
  · have K := K.1 c1
    subst K
    exact zi_return dX11_wearSlopes_91 rfl
  · have K := K.2 c1
    refine zi_iconst (v := 0) dX11_wearSlopes_13 (by decide) ?_
    refine zi_istore_n (ls' := [some (.ref 0), some (.int x1), some (.int 0)]) dX11_wearSlopes_14 rfl (by decide) rfl ?_
    exact K
set_option maxRecDepth 100000 in
theorem tX11_wearSlopes_15 {G : zG} {d b : Nat} {I : Nat → Nat → Int32} {L : Nat → Nat → Int64} {R : zR} {x1 : Int32} {x2 : Int32} (hb : zbl b) (hR : zR0 R)
    (K : (((I b 1) ≤ x2 → zA G (d + 2) mX11_wearSlopes 2 [some (.ref 0), some (.int (x1 + 1)), none] [] (zh b I L) R) ∧ (¬ (I b 1) ≤ x2 → (∃ (r2 : Int32), zCall (d + 1) mX10_goersIn [.ref 43, .int x1, .int x2, .int (I b 2)] (zh b I L) (some (.int r2), zh b I L) ∧ ((r2 < 2 → zA G (d + 2) mX11_wearSlopes 15 [some (.ref 0), some (.int x1), some (.int (x2 + 1))] [] (zh b I L) R) ∧ (¬ r2 < 2 → (vp_in ((x1 * 6) + x2) 48 ∧ (vp_in ((x1 * 6) + x2) 48 ∧ zA G (d + 2) mX11_wearSlopes 15 [some (.ref 0), some (.int x1), some (.int (x2 + 1))] [] (zh b (zup I (b + 1) (zx ((x1 * 6) + x2)) (if ((I (b + 1) (zx ((x1 * 6) + x2))) + 1) < 9 then ((I (b + 1) (zx ((x1 * 6) + x2))) + 1) else 9)) L) R)))))))) :
    zA G (d + 2) mX11_wearSlopes 15 [some (.ref 0), some (.int x1), some (.int x2)] [] (zh b I L) R := by
  refine zi_iload_n dX11_wearSlopes_15 rfl rfl ?_
  refine zi_aload_n dX11_wearSlopes_16 rfl rfl ?_
  refine zg_getF (k := 0) (v := .ref b) dX11_wearSlopes_17 zc11 rfl (Nat.le_of_ble_eq_true rfl) (Nat.le_of_ble_eq_true rfl) u_244 rfl (rfl) ?_
  refine zg_getI (k := 1) dX11_wearSlopes_20 zc4 hb.hl.sh hb.hl.l0 (Nat.le_of_ble_eq_true rfl) u_44 rfl ?_
  refine zi_icmp_ge (tgt := 85) dX11_wearSlopes_23 (by decide) (fun c1 => ?_) (fun c1 => ?_)
  · have K := K.1 c1
    refine zi_iinc (v := x1 + 1) (ls' := [some (.ref 0), some (.int (x1 + 1)), some (.int x2)]) dX11_wearSlopes_85 rfl (by decide) rfl rfl ?_
    refine zi_goto (tgt := 2) dX11_wearSlopes_88 (by decide) ?_
    refine zi_mask [true, true, false] rfl ?_
    exact K
  · have K := K.2 c1
    refine zi_aload_n dX11_wearSlopes_26 rfl rfl ?_
    refine zg_getF (k := 5) (v := .ref 43) dX11_wearSlopes_27 zc11 rfl (Nat.le_of_ble_eq_true rfl) (Nat.le_of_ble_eq_true rfl) u_249 rfl (rfl) ?_
    refine zi_iload_n dX11_wearSlopes_30 rfl rfl ?_
    refine zi_iload_n dX11_wearSlopes_31 rfl rfl ?_
    refine zi_aload_n dX11_wearSlopes_32 rfl rfl ?_
    refine zg_getF (k := 0) (v := .ref b) dX11_wearSlopes_33 zc11 rfl (Nat.le_of_ble_eq_true rfl) (Nat.le_of_ble_eq_true rfl) u_244 rfl (rfl) ?_
    refine zg_getI (k := 2) dX11_wearSlopes_36 zc4 hb.hl.sh hb.hl.l0 (Nat.le_of_ble_eq_true rfl) u_48 rfl ?_
    obtain ⟨r2, h3, K⟩ := K
    refine zi_callV (N := mX10_goersIn) (av := [.int x1, .int x2, .int (I b 2)]) (st := []) (R1 := (some (.int r2), zh b I L)) dX11_wearSlopes_39 okX10_goersIn u_707 u_708 u_709 zc10 (rfl) (Nat.le_of_ble_eq_true rfl) arX10_goersIn rfl (Nat.le_of_ble_eq_true rfl) (h3) hR ?_
    show zA G (d + 2) mX11_wearSlopes 42 [some (.ref 0), some (.int x1), some (.int x2)] [.int r2] (zh b I L) R
    refine zi_iconst (v := 2) dX11_wearSlopes_42 (by decide) ?_
    refine zi_icmp_lt (tgt := 79) dX11_wearSlopes_43 (by decide) (fun c4 => ?_) (fun c4 => ?_)
    · have K := K.1 c4
      refine zi_iinc (v := x2 + 1) (ls' := [some (.ref 0), some (.int x1), some (.int (x2 + 1))]) dX11_wearSlopes_79 rfl (by decide) rfl rfl ?_
      refine zi_goto (tgt := 15) dX11_wearSlopes_82 (by decide) ?_
      exact K
    · have K := K.2 c4
      refine zi_aload_n dX11_wearSlopes_46 rfl rfl ?_
      refine zg_getF (k := 0) (v := .ref b) dX11_wearSlopes_47 zc11 rfl (Nat.le_of_ble_eq_true rfl) (Nat.le_of_ble_eq_true rfl) u_244 rfl (rfl) ?_
      refine zg_getF (k := 5) (v := .ref (b + 1)) dX11_wearSlopes_50 zc4 hb.hl.sh hb.hl.l0 (Nat.le_of_ble_eq_true rfl) u_56 rfl (hb.hl.f5) ?_
      refine zi_iload_n dX11_wearSlopes_53 rfl rfl ?_
      refine zi_iload_n dX11_wearSlopes_54 rfl rfl ?_
      refine zi_callS (N := mX11_cell) (av := [.int x1, .int x2]) (st := [.ref (b + 1)]) (R1 := (some (.int ((x1 * 6) + x2)), zh b I L)) dX11_wearSlopes_55 okX11_cell u_314 u_315 arX11_cell rfl (Nat.le_of_ble_eq_true rfl) (kX11_cell _ _) hR ?_
      show zA G (d + 2) mX11_wearSlopes 58 [some (.ref 0), some (.int x1), some (.int x2)] [.int ((x1 * 6) + x2), .ref (b + 1)] (zh b I L) R
      refine zi_bipush (v := 9) dX11_wearSlopes_58 (by decide) ?_
      refine zi_aload_n dX11_wearSlopes_60 rfl rfl ?_
      refine zg_getF (k := 0) (v := .ref b) dX11_wearSlopes_61 zc11 rfl (Nat.le_of_ble_eq_true rfl) (Nat.le_of_ble_eq_true rfl) u_244 rfl (rfl) ?_
      refine zg_getF (k := 5) (v := .ref (b + 1)) dX11_wearSlopes_64 zc4 hb.hl.sh hb.hl.l0 (Nat.le_of_ble_eq_true rfl) u_56 rfl (hb.hl.f5) ?_
      refine zi_iload_n dX11_wearSlopes_67 rfl rfl ?_
      refine zi_iload_n dX11_wearSlopes_68 rfl rfl ?_
      refine zi_callS (N := mX11_cell) (av := [.int x1, .int x2]) (st := [.ref (b + 1), .int 9, .int ((x1 * 6) + x2), .ref (b + 1)]) (R1 := (some (.int ((x1 * 6) + x2)), zh b I L)) dX11_wearSlopes_69 okX11_cell u_314 u_315 arX11_cell rfl (Nat.le_of_ble_eq_true rfl) (kX11_cell _ _) hR ?_
      show zA G (d + 2) mX11_wearSlopes 72 [some (.ref 0), some (.int x1), some (.int x2)] [.int ((x1 * 6) + x2), .ref (b + 1), .int 9, .int ((x1 * 6) + x2), .ref (b + 1)] (zh b I L) R
      have o5 := K.1
      have K := K.2
      refine zg_iaload dX11_wearSlopes_72 (hb.hl.s1) (hb.hl.lt 1 (Nat.le_of_ble_eq_true rfl)) o5 ?_
      refine zi_iconst (v := 1) dX11_wearSlopes_73 (by decide) ?_
      refine zi_iadd dX11_wearSlopes_74 ?_
      refine zg_min dX11_wearSlopes_75 u_711 (Nat.le_of_ble_eq_true rfl) hR ?_
      have o6 := K.1
      have K := K.2
      refine zg_iastore dX11_wearSlopes_78 (hb.hl.s1) (hb.hl.lt 1 (Nat.le_of_ble_eq_true rfl)) o6 ?_
      refine zi_iinc (v := x2 + 1) (ls' := [some (.ref 0), some (.int x1), some (.int (x2 + 1))]) dX11_wearSlopes_79 rfl (by decide) rfl rfl ?_
      refine zi_goto (tgt := 15) dX11_wearSlopes_82 (by decide) ?_
      exact K
set_option maxRecDepth 100000 in
theorem tX11_commonDivisor_0 {G : zG} {d b : Nat} {I : Nat → Nat → Int32} {L : Nat → Nat → Int64} {R : zR} {x0 : Int64} {x2 : Int64}
    (K : zA G d mX11_commonDivisor 9 [some (.long x0), none, some (.long x2), none, some (.long x0), none, some (.long x2), none, some (.int 0), none, none] [] (zh b I L) R) :
    zA G d mX11_commonDivisor 0 [some (.long x0), none, some (.long x2), none, none, none, none, none, none, none, none] [] (zh b I L) R := by
  refine zi_lload_n dX11_commonDivisor_0 rfl rfl ?_
  refine zi_lstore (ls' := [some (.long x0), none, some (.long x2), none, some (.long x0), none, none, none, none, none, none]) dX11_commonDivisor_1 (by decide) rfl ?_
  refine zi_lload_n dX11_commonDivisor_3 rfl rfl ?_
  refine zi_lstore (ls' := [some (.long x0), none, some (.long x2), none, some (.long x0), none, some (.long x2), none, none, none, none]) dX11_commonDivisor_4 (by decide) rfl ?_
  refine zi_iconst (v := 0) dX11_commonDivisor_6 (by decide) ?_
  refine zi_istore (ls' := [some (.long x0), none, some (.long x2), none, some (.long x0), none, some (.long x2), none, some (.int 0), none, none]) dX11_commonDivisor_7 (by decide) rfl ?_
  exact K
set_option maxRecDepth 100000 in
theorem tX11_commonDivisor_9 {G : zG} {d b : Nat} {I : Nat → Nat → Int32} {L : Nat → Nat → Int64} {R : zR} {x0 : Int64} {x2 : Int64} {x4 : Int64} {x6 : Int64} {x8 : Int32}
    (K : ((100 ≤ x8 → R = (some (.long x4), zh b I L)) ∧ (¬ 100 ≤ x8 → (((lg_cmp x6 0) = 0 → R = (some (.long x4), zh b I L)) ∧ (¬ (lg_cmp x6 0) = 0 → (¬ x6 = 0 ∧ zA G d mX11_commonDivisor 9 [some (.long x0), none, some (.long x2), none, some (.long x6), none, some (.long (zremL x4 x6)), none, some (.int (x8 + 1)), none, none] [] (zh b I L) R)))))) :
    zA G d mX11_commonDivisor 9 [some (.long x0), none, some (.long x2), none, some (.long x4), none, some (.long x6), none, some (.int x8), none, none] [] (zh b I L) R := by
  refine zi_iload dX11_commonDivisor_9 rfl ?_
  refine zi_bipush (v := 100) dX11_commonDivisor_11 (by decide) ?_
  refine zi_icmp_ge (tgt := 44) dX11_commonDivisor_13 (by decide) (fun c1 => ?_) (fun c1 => ?_)
  · have K := K.1 c1
    refine zi_lload dX11_commonDivisor_44 rfl ?_
    subst K
    exact zi_lreturn dX11_commonDivisor_46 rfl
  · have K := K.2 c1
    refine zi_lload dX11_commonDivisor_16 rfl ?_
    refine zi_lconst (v := 0) dX11_commonDivisor_18 (by decide) ?_
    refine zi_lcmp dX11_commonDivisor_19 ?_
    refine zi_if_eq (tgt := 44) dX11_commonDivisor_20 (by decide) (fun c2 => ?_) (fun c2 => ?_)
    · have K := K.1 c2
      refine zi_lload dX11_commonDivisor_44 rfl ?_
      subst K
      exact zi_lreturn dX11_commonDivisor_46 rfl
    · have K := K.2 c2
      refine zi_lload dX11_commonDivisor_23 rfl ?_
      refine zi_lload dX11_commonDivisor_25 rfl ?_
      have o3 := K.1
      have K := K.2
      refine zi_lrem dX11_commonDivisor_27 o3 ?_
      refine zi_lstore (ls' := [some (.long x0), none, some (.long x2), none, some (.long x4), none, some (.long x6), none, some (.int x8), some (.long (zremL x4 x6)), none]) dX11_commonDivisor_28 (by decide) rfl ?_
      refine zi_lload dX11_commonDivisor_30 rfl ?_
      refine zi_lstore (ls' := [some (.long x0), none, some (.long x2), none, some (.long x6), none, some (.long x6), none, some (.int x8), some (.long (zremL x4 x6)), none]) dX11_commonDivisor_32 (by decide) rfl ?_
      refine zi_lload dX11_commonDivisor_34 rfl ?_
      refine zi_lstore (ls' := [some (.long x0), none, some (.long x2), none, some (.long x6), none, some (.long (zremL x4 x6)), none, some (.int x8), some (.long (zremL x4 x6)), none]) dX11_commonDivisor_36 (by decide) rfl ?_
      refine zi_iinc (v := x8 + 1) (ls' := [some (.long x0), none, some (.long x2), none, some (.long x6), none, some (.long (zremL x4 x6)), none, some (.int (x8 + 1)), some (.long (zremL x4 x6)), none]) dX11_commonDivisor_38 rfl (by decide) rfl rfl ?_
      refine zi_goto (tgt := 9) dX11_commonDivisor_41 (by decide) ?_
      refine zi_mask [true, true, true, true, true, true, true, true, true, false, true] rfl ?_
      exact K
