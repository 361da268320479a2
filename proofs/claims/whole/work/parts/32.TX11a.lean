/-! rows by program: X11_hill, X11_put, X11_at, X11_runner, X11_line, X11_type, X11_clear, X11_goes, X11_down, X11_best, X11_fall, X11_place, X11_clashes, X11_apart, X11_began, X11_cheese, X11_fence, X11_feet, X11_catchers, X11_bale, X11_run, X11_undo -/
set_option maxRecDepth 100000 in
theorem tX11_hill_0 {G : zG} {d b : Nat} {I : Nat → Nat → Int32} {L : Nat → Nat → Int64} {R : zR} {x1 : Int32} {x2 : Int32} (hb : zbl b) (hR : zR0 R)
    (K : ((¬ (1 ≤ x1 ∧ x1 ≤ 8) → (∃ (r2 : Int32) (I3 : Nat → Nat → Int32), zCall (d + 1) mX11_refuseBad [.ref 0, .int (-2)] (zh b I L) (some (.int r2), zh b I3 L) ∧ R = (some (.int r2), zh b I3 L))) ∧ ((1 ≤ x1 ∧ x1 ≤ 8) → (((1 ≤ x2 ∧ x2 ≤ 6) → (∃ (I6 : Nat → Nat → Int32), zCall (d + 1) mX4_layOut [.ref b, .int x1, .int x2] (zh b I L) (none, zh b I6 L) ∧ R = (some (.int 1), zh b I6 L))) ∧ (¬ (1 ≤ x2 ∧ x2 ≤ 6) → (∃ (r8 : Int32) (I9 : Nat → Nat → Int32), zCall (d + 1) mX11_refuseBad [.ref 0, .int (-2)] (zh b I L) (some (.int r8), zh b I9 L) ∧ R = (some (.int r8), zh b I9 L))))))) :
    zA G (d + 2) mX11_hill 0 [some (.ref 0), some (.int x1), some (.int x2)] [] (zh b I L) R := by
  refine zi_iload_n dX11_hill_0 rfl rfl ?_
  refine zi_iconst (v := 1) dX11_hill_1 (by decide) ?_
  refine zi_bipush (v := 8) dX11_hill_2 (by decide) ?_
  refine zi_callS (N := mX11_within) (av := [.int x1, .int 1, .int 8]) (st := []) (R1 := (some (.int (zb (1 ≤ x1 ∧ x1 ≤ 8))), zh b I L)) dX11_hill_4 okX11_within u_294 u_295 arX11_within rfl (Nat.le_of_ble_eq_true rfl) (kX11_within _ _ _) hR ?_
  show zA G (d + 2) mX11_hill 7 [some (.ref 0), some (.int x1), some (.int x2)] [.int (zb (1 ≤ x1 ∧ x1 ≤ 8))] (zh b I L) R
  refine zi_if_eq (tgt := 20) dX11_hill_7 (by decide) (fun c1 => ?_) (fun c1 => ?_)
  · have K := K.1 (zb_0 c1)
    refine zi_aload_n dX11_hill_20 rfl rfl ?_
    refine zi_bipush (v := (-2)) dX11_hill_21 (by decide) ?_
    obtain ⟨r2, I3, h4, K⟩ := K
    refine zi_callV (N := mX11_refuseBad) (av := [.int (-2)]) (st := []) (R1 := (some (.int r2), zh b I3 L)) dX11_hill_23 okX11_refuseBad u_297 u_299 s_0 zc11 (rfl) (Nat.le_of_ble_eq_true rfl) arX11_refuseBad rfl (Nat.le_of_ble_eq_true rfl) (h4) hR ?_
    show zA G (d + 2) mX11_hill 26 [some (.ref 0), some (.int x1), some (.int x2)] [.int r2] (zh b I3 L) R
    subst K
    exact zi_ireturn dX11_hill_26 rfl rfl
  · have K := K.2 (zb_1 c1)
    refine zi_iload_n dX11_hill_10 rfl rfl ?_
    refine zi_iconst (v := 1) dX11_hill_11 (by decide) ?_
    refine zi_bipush (v := 6) dX11_hill_12 (by decide) ?_
    refine zi_callS (N := mX11_within) (av := [.int x2, .int 1, .int 6]) (st := []) (R1 := (some (.int (zb (1 ≤ x2 ∧ x2 ≤ 6))), zh b I L)) dX11_hill_14 okX11_within u_294 u_295 arX11_within rfl (Nat.le_of_ble_eq_true rfl) (kX11_within _ _ _) hR ?_
    show zA G (d + 2) mX11_hill 17 [some (.ref 0), some (.int x1), some (.int x2)] [.int (zb (1 ≤ x2 ∧ x2 ≤ 6))] (zh b I L) R
    refine zi_if_ne (tgt := 27) dX11_hill_17 (by decide) (fun c5 => ?_) (fun c5 => ?_)
    · have K := K.1 (zb_1 c5)
      refine zi_aload_n dX11_hill_27 rfl rfl ?_
      refine zg_getF (k := 0) (v := .ref b) dX11_hill_28 zc11 rfl (Nat.le_of_ble_eq_true rfl) (Nat.le_of_ble_eq_true rfl) u_244 rfl (rfl) ?_
      refine zi_iload_n dX11_hill_31 rfl rfl ?_
      refine zi_iload_n dX11_hill_32 rfl rfl ?_
      obtain ⟨I6, h7, K⟩ := K
      refine zi_callV (N := mX4_layOut) (av := [.int x1, .int x2]) (st := []) (R1 := (none, zh b I6 L)) dX11_hill_33 okX4_layOut u_237 u_238 u_239 zc4 (hb.hl.sh) hb.hl.l0 arX4_layOut rfl (Nat.le_of_ble_eq_true rfl) (h7) hR ?_
      show zA G (d + 2) mX11_hill 36 [some (.ref 0), some (.int x1), some (.int x2)] [] (zh b I6 L) R
      refine zi_iconst (v := 1) dX11_hill_36 (by decide) ?_
      subst K
      exact zi_ireturn dX11_hill_37 rfl rfl
    · have K := K.2 (zb_0 c5)
      refine zi_aload_n dX11_hill_20 rfl rfl ?_
      refine zi_bipush (v := (-2)) dX11_hill_21 (by decide) ?_
      obtain ⟨r8, I9, h10, K⟩ := K
      refine zi_callV (N := mX11_refuseBad) (av := [.int (-2)]) (st := []) (R1 := (some (.int r8), zh b I9 L)) dX11_hill_23 okX11_refuseBad u_297 u_299 s_0 zc11 (rfl) (Nat.le_of_ble_eq_true rfl) arX11_refuseBad rfl (Nat.le_of_ble_eq_true rfl) (h10) hR ?_
      show zA G (d + 2) mX11_hill 26 [some (.ref 0), some (.int x1), some (.int x2)] [.int r8] (zh b I9 L) R
      subst K
      exact zi_ireturn dX11_hill_26 rfl rfl
set_option maxRecDepth 100000 in
theorem tX11_put_0 {G : zG} {d b : Nat} {I : Nat → Nat → Int32} {L : Nat → Nat → Int64} {R : zR} {x1 : Int32} {x2 : Int32} {x3 : Int32} {x4 : Int32} (hb : zbl b) (hR : zR0 R)
    (K : ((¬ (0 ≤ x1 ∧ x1 ≤ 1) → (∃ (r2 : Int32) (I3 : Nat → Nat → Int32), zCall (d + 2) mX11_refuseBad [.ref 0, .int (-2)] (zh b I L) (some (.int r2), zh b I3 L) ∧ R = (some (.int r2), zh b I3 L))) ∧ ((0 ≤ x1 ∧ x1 ≤ 1) → ((¬ ((0 ≤ x2 ∧ x2 ≤ I b 0 - 1) ∧ (0 ≤ x3 ∧ x3 ≤ I b 1 - 1)) → (∃ (r6 : Int32) (I7 : Nat → Nat → Int32), zCall (d + 2) mX11_refuseBad [.ref 0, .int (-2)] (zh b I L) (some (.int r6), zh b I7 L) ∧ R = (some (.int r6), zh b I7 L))) ∧ (((0 ≤ x2 ∧ x2 ≤ I b 0 - 1) ∧ (0 ≤ x3 ∧ x3 ≤ I b 1 - 1)) → ((¬ x1 = 0 → (((0 ≤ x4 ∧ x4 ≤ 3) → ((¬ x1 = 0 → (vp_in ((x2 * 6) + x3) 48 ∧ (vp_in ((x2 * 6) + x3) 48 ∧ R = (some (.int (I (b + 2) (zx ((x2 * 6) + x3)))), zh b (zup I (b + 2) (zx ((x2 * 6) + x3)) x4) L)))) ∧ (x1 = 0 → (vp_in ((x2 * 6) + x3) 48 ∧ (vp_in ((x2 * 6) + x3) 48 ∧ R = (some (.int (I (b + 1) (zx ((x2 * 6) + x3)))), zh b (zup I (b + 1) (zx ((x2 * 6) + x3)) x4) L)))))) ∧ (¬ (0 ≤ x4 ∧ x4 ≤ 3) → (∃ (r16 : Int32) (I17 : Nat → Nat → Int32), zCall (d + 2) mX11_refuseBad [.ref 0, .int (-2)] (zh b I L) (some (.int r16), zh b I17 L) ∧ R = (some (.int r16), zh b I17 L))))) ∧ (x1 = 0 → (((0 ≤ x4 ∧ x4 ≤ 9) → ((¬ x1 = 0 → (vp_in ((x2 * 6) + x3) 48 ∧ (vp_in ((x2 * 6) + x3) 48 ∧ R = (some (.int (I (b + 2) (zx ((x2 * 6) + x3)))), zh b (zup I (b + 2) (zx ((x2 * 6) + x3)) x4) L)))) ∧ (x1 = 0 → (vp_in ((x2 * 6) + x3) 48 ∧ (vp_in ((x2 * 6) + x3) 48 ∧ R = (some (.int (I (b + 1) (zx ((x2 * 6) + x3)))), zh b (zup I (b + 1) (zx ((x2 * 6) + x3)) x4) L)))))) ∧ (¬ (0 ≤ x4 ∧ x4 ≤ 9) → (∃ (r25 : Int32) (I26 : Nat → Nat → Int32), zCall (d + 2) mX11_refuseBad [.ref 0, .int (-2)] (zh b I L) (some (.int r25), zh b I26 L) ∧ R = (some (.int r25), zh b I26 L))))))))))) :
    zA G (d + 3) mX11_put 0 [some (.ref 0), some (.int x1), some (.int x2), some (.int x3), some (.int x4), none, none] [] (zh b I L) R := by
  refine zi_iload_n dX11_put_0 rfl rfl ?_
  refine zi_iconst (v := 0) dX11_put_1 (by decide) ?_
  refine zi_iconst (v := 1) dX11_put_2 (by decide) ?_
  refine zi_callS (N := mX11_within) (av := [.int x1, .int 0, .int 1]) (st := []) (R1 := (some (.int (zb (0 ≤ x1 ∧ x1 ≤ 1))), zh b I L)) dX11_put_3 okX11_within u_294 u_295 arX11_within rfl (Nat.le_of_ble_eq_true rfl) (kX11_within _ _ _) hR ?_
  show zA G (d + 3) mX11_put 6 [some (.ref 0), some (.int x1), some (.int x2), some (.int x3), some (.int x4), none, none] [.int (zb (0 ≤ x1 ∧ x1 ≤ 1))] (zh b I L) R
  refine zi_if_eq (tgt := 40) dX11_put_6 (by decide) (fun c1 => ?_) (fun c1 => ?_)
  · have K := K.1 (zb_0 c1)
    refine zi_aload_n dX11_put_40 rfl rfl ?_
    refine zi_bipush (v := (-2)) dX11_put_41 (by decide) ?_
    obtain ⟨r2, I3, h4, K⟩ := K
    refine zi_callV (N := mX11_refuseBad) (av := [.int (-2)]) (st := []) (R1 := (some (.int r2), zh b I3 L)) dX11_put_43 okX11_refuseBad u_297 u_299 s_0 zc11 (rfl) (Nat.le_of_ble_eq_true rfl) arX11_refuseBad rfl (Nat.le_of_ble_eq_true rfl) (h4) hR ?_
    show zA G (d + 3) mX11_put 46 [some (.ref 0), some (.int x1), some (.int x2), some (.int x3), some (.int x4), none, none] [.int r2] (zh b I3 L) R
    subst K
    exact zi_ireturn dX11_put_46 rfl rfl
  · have K := K.2 (zb_1 c1)
    refine zi_aload_n dX11_put_9 rfl rfl ?_
    refine zg_getF (k := 0) (v := .ref b) dX11_put_10 zc11 rfl (Nat.le_of_ble_eq_true rfl) (Nat.le_of_ble_eq_true rfl) u_244 rfl (rfl) ?_
    refine zi_iload_n dX11_put_13 rfl rfl ?_
    refine zi_iload_n dX11_put_14 rfl rfl ?_
    refine zi_callV (N := mX4_hasCell) (av := [.int x2, .int x3]) (st := []) (R1 := (some (.int (zb ((0 ≤ x2 ∧ x2 ≤ I b 0 - 1) ∧ (0 ≤ x3 ∧ x3 ≤ I b 1 - 1)))), zh b I L)) dX11_put_15 okX4_hasCell u_305 u_306 u_307 zc4 (hb.hl.sh) hb.hl.l0 arX4_hasCell rfl (Nat.le_of_ble_eq_true rfl) (kX4_hasCell hb.hl _ _) hR ?_
    show zA G (d + 3) mX11_put 18 [some (.ref 0), some (.int x1), some (.int x2), some (.int x3), some (.int x4), none, none] [.int (zb ((0 ≤ x2 ∧ x2 ≤ I b 0 - 1) ∧ (0 ≤ x3 ∧ x3 ≤ I b 1 - 1)))] (zh b I L) R
    refine zi_if_eq (tgt := 40) dX11_put_18 (by decide) (fun c5 => ?_) (fun c5 => ?_)
    · have K := K.1 (zb_0 c5)
      refine zi_aload_n dX11_put_40 rfl rfl ?_
      refine zi_bipush (v := (-2)) dX11_put_41 (by decide) ?_
      obtain ⟨r6, I7, h8, K⟩ := K
      refine zi_callV (N := mX11_refuseBad) (av := [.int (-2)]) (st := []) (R1 := (some (.int r6), zh b I7 L)) dX11_put_43 okX11_refuseBad u_297 u_299 s_0 zc11 (rfl) (Nat.le_of_ble_eq_true rfl) arX11_refuseBad rfl (Nat.le_of_ble_eq_true rfl) (h8) hR ?_
      show zA G (d + 3) mX11_put 46 [some (.ref 0), some (.int x1), some (.int x2), some (.int x3), some (.int x4), none, none] [.int r6] (zh b I7 L) R
      subst K
      exact zi_ireturn dX11_put_46 rfl rfl
    · have K := K.2 (zb_1 c5)
      refine zi_iload dX11_put_21 rfl ?_
      refine zi_iconst (v := 0) dX11_put_23 (by decide) ?_
      refine zi_iload_n dX11_put_24 rfl rfl ?_
      refine zi_if_ne (tgt := 33) dX11_put_25 (by decide) (fun c9 => ?_) (fun c9 => ?_)
      · have K := K.1 c9
        refine zi_iconst (v := 3) dX11_put_33 (by decide) ?_
        refine zi_callS (N := mX11_within) (av := [.int x4, .int 0, .int 3]) (st := []) (R1 := (some (.int (zb (0 ≤ x4 ∧ x4 ≤ 3))), zh b I L)) dX11_put_34 okX11_within u_294 u_295 arX11_within rfl (Nat.le_of_ble_eq_true rfl) (kX11_within _ _ _) hR ?_
        show zA G (d + 3) mX11_put 37 [some (.ref 0), some (.int x1), some (.int x2), some (.int x3), some (.int x4), none, none] [.int (zb (0 ≤ x4 ∧ x4 ≤ 3))] (zh b I L) R
        refine zi_if_ne (tgt := 47) dX11_put_37 (by decide) (fun c10 => ?_) (fun c10 => ?_)
        · have K := K.1 (zb_1 c10)
          refine zi_iload_n dX11_put_47 rfl rfl ?_
          refine zi_if_ne (tgt := 61) dX11_put_48 (by decide) (fun c11 => ?_) (fun c11 => ?_)
          · have K := K.1 c11
            refine zi_aload_n dX11_put_61 rfl rfl ?_
            refine zg_getF (k := 0) (v := .ref b) dX11_put_62 zc11 rfl (Nat.le_of_ble_eq_true rfl) (Nat.le_of_ble_eq_true rfl) u_244 rfl (rfl) ?_
            refine zg_getF (k := 6) (v := .ref (b + 2)) dX11_put_65 zc4 hb.hl.sh hb.hl.l0 (Nat.le_of_ble_eq_true rfl) u_63 rfl (hb.hl.f6) ?_
            refine zi_astore (ls' := [some (.ref 0), some (.int x1), some (.int x2), some (.int x3), some (.int x4), some (.ref (b + 2)), none]) dX11_put_68 (by decide) rfl ?_
            refine zi_aload dX11_put_70 rfl ?_
            refine zi_iload_n dX11_put_72 rfl rfl ?_
            refine zi_iload_n dX11_put_73 rfl rfl ?_
            refine zi_callS (N := mX11_cell) (av := [.int x2, .int x3]) (st := [.ref (b + 2)]) (R1 := (some (.int ((x2 * 6) + x3)), zh b I L)) dX11_put_74 okX11_cell u_314 u_315 arX11_cell rfl (Nat.le_of_ble_eq_true rfl) (kX11_cell _ _) hR ?_
            show zA G (d + 3) mX11_put 77 [some (.ref 0), some (.int x1), some (.int x2), some (.int x3), some (.int x4), some (.ref (b + 2)), none] [.int ((x2 * 6) + x3), .ref (b + 2)] (zh b I L) R
            have o12 := K.1
            have K := K.2
            refine zg_iaload dX11_put_77 (hb.hl.s2) (hb.hl.lt 2 (Nat.le_of_ble_eq_true rfl)) o12 ?_
            refine zi_istore (ls' := [some (.ref 0), some (.int x1), some (.int x2), some (.int x3), some (.int x4), some (.ref (b + 2)), some (.int (I (b + 2) (zx ((x2 * 6) + x3))))]) dX11_put_78 (by decide) rfl ?_
            refine zi_aload dX11_put_80 rfl ?_
            refine zi_iload_n dX11_put_82 rfl rfl ?_
            refine zi_iload_n dX11_put_83 rfl rfl ?_
            refine zi_callS (N := mX11_cell) (av := [.int x2, .int x3]) (st := [.ref (b + 2)]) (R1 := (some (.int ((x2 * 6) + x3)), zh b I L)) dX11_put_84 okX11_cell u_314 u_315 arX11_cell rfl (Nat.le_of_ble_eq_true rfl) (kX11_cell _ _) hR ?_
            show zA G (d + 3) mX11_put 87 [some (.ref 0), some (.int x1), some (.int x2), some (.int x3), some (.int x4), some (.ref (b + 2)), some (.int (I (b + 2) (zx ((x2 * 6) + x3))))] [.int ((x2 * 6) + x3), .ref (b + 2)] (zh b I L) R
            refine zi_iload dX11_put_87 rfl ?_
            have o13 := K.1
            have K := K.2
            refine zg_iastore dX11_put_89 (hb.hl.s2) (hb.hl.lt 2 (Nat.le_of_ble_eq_true rfl)) o13 ?_
            refine zi_iload dX11_put_90 rfl ?_
            subst K
            exact zi_ireturn dX11_put_92 rfl rfl
          · have K := K.2 c11
            refine zi_aload_n dX11_put_51 rfl rfl ?_
            refine zg_getF (k := 0) (v := .ref b) dX11_put_52 zc11 rfl (Nat.le_of_ble_eq_true rfl) (Nat.le_of_ble_eq_true rfl) u_244 rfl (rfl) ?_
            refine zg_getF (k := 5) (v := .ref (b + 1)) dX11_put_55 zc4 hb.hl.sh hb.hl.l0 (Nat.le_of_ble_eq_true rfl) u_56 rfl (hb.hl.f5) ?_
            refine zi_goto (tgt := 68) dX11_put_58 (by decide) ?_
            refine zi_astore (ls' := [some (.ref 0), some (.int x1), some (.int x2), some (.int x3), some (.int x4), some (.ref (b + 1)), none]) dX11_put_68 (by decide) rfl ?_
            refine zi_aload dX11_put_70 rfl ?_
            refine zi_iload_n dX11_put_72 rfl rfl ?_
            refine zi_iload_n dX11_put_73 rfl rfl ?_
            refine zi_callS (N := mX11_cell) (av := [.int x2, .int x3]) (st := [.ref (b + 1)]) (R1 := (some (.int ((x2 * 6) + x3)), zh b I L)) dX11_put_74 okX11_cell u_314 u_315 arX11_cell rfl (Nat.le_of_ble_eq_true rfl) (kX11_cell _ _) hR ?_
            show zA G (d + 3) mX11_put 77 [some (.ref 0), some (.int x1), some (.int x2), some (.int x3), some (.int x4), some (.ref (b + 1)), none] [.int ((x2 * 6) + x3), .ref (b + 1)] (zh b I L) R
            have o14 := K.1
            have K := K.2
            refine zg_iaload dX11_put_77 (hb.hl.s1) (hb.hl.lt 1 (Nat.le_of_ble_eq_true rfl)) o14 ?_
            refine zi_istore (ls' := [some (.ref 0), some (.int x1), some (.int x2), some (.int x3), some (.int x4), some (.ref (b + 1)), some (.int (I (b + 1) (zx ((x2 * 6) + x3))))]) dX11_put_78 (by decide) rfl ?_
            refine zi_aload dX11_put_80 rfl ?_
            refine zi_iload_n dX11_put_82 rfl rfl ?_
            refine zi_iload_n dX11_put_83 rfl rfl ?_
            refine zi_callS (N := mX11_cell) (av := [.int x2, .int x3]) (st := [.ref (b + 1)]) (R1 := (some (.int ((x2 * 6) + x3)), zh b I L)) dX11_put_84 okX11_cell u_314 u_315 arX11_cell rfl (Nat.le_of_ble_eq_true rfl) (kX11_cell _ _) hR ?_
            show zA G (d + 3) mX11_put 87 [some (.ref 0), some (.int x1), some (.int x2), some (.int x3), some (.int x4), some (.ref (b + 1)), some (.int (I (b + 1) (zx ((x2 * 6) + x3))))] [.int ((x2 * 6) + x3), .ref (b + 1)] (zh b I L) R
            refine zi_iload dX11_put_87 rfl ?_
            have o15 := K.1
            have K := K.2
            refine zg_iastore dX11_put_89 (hb.hl.s1) (hb.hl.lt 1 (Nat.le_of_ble_eq_true rfl)) o15 ?_
            refine zi_iload dX11_put_90 rfl ?_
            subst K
            exact zi_ireturn dX11_put_92 rfl rfl
        · have K := K.2 (zb_0 c10)
          refine zi_aload_n dX11_put_40 rfl rfl ?_
          refine zi_bipush (v := (-2)) dX11_put_41 (by decide) ?_
          obtain ⟨r16, I17, h18, K⟩ := K
          refine zi_callV (N := mX11_refuseBad) (av := [.int (-2)]) (st := []) (R1 := (some (.int r16), zh b I17 L)) dX11_put_43 okX11_refuseBad u_297 u_299 s_0 zc11 (rfl) (Nat.le_of_ble_eq_true rfl) arX11_refuseBad rfl (Nat.le_of_ble_eq_true rfl) (h18) hR ?_
          show zA G (d + 3) mX11_put 46 [some (.ref 0), some (.int x1), some (.int x2), some (.int x3), some (.int x4), none, none] [.int r16] (zh b I17 L) R
          subst K
          exact zi_ireturn dX11_put_46 rfl rfl
      · have K := K.2 c9
        refine zi_bipush (v := 9) dX11_put_28 (by decide) ?_
        refine zi_goto (tgt := 34) dX11_put_30 (by decide) ?_
        refine zi_callS (N := mX11_within) (av := [.int x4, .int 0, .int 9]) (st := []) (R1 := (some (.int (zb (0 ≤ x4 ∧ x4 ≤ 9))), zh b I L)) dX11_put_34 okX11_within u_294 u_295 arX11_within rfl (Nat.le_of_ble_eq_true rfl) (kX11_within _ _ _) hR ?_
        show zA G (d + 3) mX11_put 37 [some (.ref 0), some (.int x1), some (.int x2), some (.int x3), some (.int x4), none, none] [.int (zb (0 ≤ x4 ∧ x4 ≤ 9))] (zh b I L) R
        refine zi_if_ne (tgt := 47) dX11_put_37 (by decide) (fun c19 => ?_) (fun c19 => ?_)
        · have K := K.1 (zb_1 c19)
          refine zi_iload_n dX11_put_47 rfl rfl ?_
          refine zi_if_ne (tgt := 61) dX11_put_48 (by decide) (fun c20 => ?_) (fun c20 => ?_)
          · have K := K.1 c20
            refine zi_aload_n dX11_put_61 rfl rfl ?_
            refine zg_getF (k := 0) (v := .ref b) dX11_put_62 zc11 rfl (Nat.le_of_ble_eq_true rfl) (Nat.le_of_ble_eq_true rfl) u_244 rfl (rfl) ?_
            refine zg_getF (k := 6) (v := .ref (b + 2)) dX11_put_65 zc4 hb.hl.sh hb.hl.l0 (Nat.le_of_ble_eq_true rfl) u_63 rfl (hb.hl.f6) ?_
            refine zi_astore (ls' := [some (.ref 0), some (.int x1), some (.int x2), some (.int x3), some (.int x4), some (.ref (b + 2)), none]) dX11_put_68 (by decide) rfl ?_
            refine zi_aload dX11_put_70 rfl ?_
            refine zi_iload_n dX11_put_72 rfl rfl ?_
            refine zi_iload_n dX11_put_73 rfl rfl ?_
            refine zi_callS (N := mX11_cell) (av := [.int x2, .int x3]) (st := [.ref (b + 2)]) (R1 := (some (.int ((x2 * 6) + x3)), zh b I L)) dX11_put_74 okX11_cell u_314 u_315 arX11_cell rfl (Nat.le_of_ble_eq_true rfl) (kX11_cell _ _) hR ?_
            show zA G (d + 3) mX11_put 77 [some (.ref 0), some (.int x1), some (.int x2), some (.int x3), some (.int x4), some (.ref (b + 2)), none] [.int ((x2 * 6) + x3), .ref (b + 2)] (zh b I L) R
            have o21 := K.1
            have K := K.2
            refine zg_iaload dX11_put_77 (hb.hl.s2) (hb.hl.lt 2 (Nat.le_of_ble_eq_true rfl)) o21 ?_
            refine zi_istore (ls' := [some (.ref 0), some (.int x1), some (.int x2), some (.int x3), some (.int x4), some (.ref (b + 2)), some (.int (I (b + 2) (zx ((x2 * 6) + x3))))]) dX11_put_78 (by decide) rfl ?_
            refine zi_aload dX11_put_80 rfl ?_
            refine zi_iload_n dX11_put_82 rfl rfl ?_
            refine zi_iload_n dX11_put_83 rfl rfl ?_
            refine zi_callS (N := mX11_cell) (av := [.int x2, .int x3]) (st := [.ref (b + 2)]) (R1 := (some (.int ((x2 * 6) + x3)), zh b I L)) dX11_put_84 okX11_cell u_314 u_315 arX11_cell rfl (Nat.le_of_ble_eq_true rfl) (kX11_cell _ _) hR ?_
            show zA G (d + 3) mX11_put 87 [some (.ref 0), some (.int x1), some (.int x2), some (.int x3), some (.int x4), some (.ref (b + 2)), some (.int (I (b + 2) (zx ((x2 * 6) + x3))))] [.int ((x2 * 6) + x3), .ref (b + 2)] (zh b I L) R
            refine zi_iload dX11_put_87 rfl ?_
            have o22 := K.1
            have K := K.2
            refine zg_iastore dX11_put_89 (hb.hl.s2) (hb.hl.lt 2 (Nat.le_of_ble_eq_true rfl)) o22 ?_
            refine zi_iload dX11_put_90 rfl ?_
            subst K
            exact zi_ireturn dX11_put_92 rfl rfl
          · have K := K.2 c20
            refine zi_aload_n dX11_put_51 rfl rfl ?_
            refine zg_getF (k := 0) (v := .ref b) dX11_put_52 zc11 rfl (Nat.le_of_ble_eq_true rfl) (Nat.le_of_ble_eq_true rfl) u_244 rfl (rfl) ?_
            refine zg_getF (k := 5) (v := .ref (b + 1)) dX11_put_55 zc4 hb.hl.sh hb.hl.l0 (Nat.le_of_ble_eq_true rfl) u_56 rfl (hb.hl.f5) ?_
            refine zi_goto (tgt := 68) dX11_put_58 (by decide) ?_
            refine zi_astore (ls' := [some (.ref 0), some (.int x1), some (.int x2), some (.int x3), some (.int x4), some (.ref (b + 1)), none]) dX11_put_68 (by decide) rfl ?_
            refine zi_aload dX11_put_70 rfl ?_
            refine zi_iload_n dX11_put_72 rfl rfl ?_
            refine zi_iload_n dX11_put_73 rfl rfl ?_
            refine zi_callS (N := mX11_cell) (av := [.int x2, .int x3]) (st := [.ref (b + 1)]) (R1 := (some (.int ((x2 * 6) + x3)), zh b I L)) dX11_put_74 okX11_cell u_314 u_315 arX11_cell rfl (Nat.le_of_ble_eq_true rfl) (kX11_cell _ _) hR ?_
            show zA G (d + 3) mX11_put 77 [some (.ref 0), some (.int x1), some (.int x2), some (.int x3), some (.int x4), some (.ref (b + 1)), none] [.int ((x2 * 6) + x3), .ref (b + 1)] (zh b I L) R
            have o23 := K.1
            have K := K.2
            refine zg_iaload dX11_put_77 (hb.hl.s1) (hb.hl.lt 1 (Nat.le_of_ble_eq_true rfl)) o23 ?_
            refine zi_istore (ls' := [some (.ref 0), some (.int x1), some (.int x2), some (.int x3), some (.int x4), some (.ref (b + 1)), some (.int (I (b + 1) (zx ((x2 * 6) + x3))))]) dX11_put_78 (by decide) rfl ?_
            refine zi_aload dX11_put_80 rfl ?_
            refine zi_iload_n dX11_put_82 rfl rfl ?_
            refine zi_iload_n dX11_put_83 rfl rfl ?_
            refine zi_callS (N := mX11_cell) (av := [.int x2, .int x3]) (st := [.ref (b + 1)]) (R1 := (some (.int ((x2 * 6) + x3)), zh b I L)) dX11_put_84 okX11_cell u_314 u_315 arX11_cell rfl (Nat.le_of_ble_eq_true rfl) (kX11_cell _ _) hR ?_
            show zA G (d + 3) mX11_put 87 [some (.ref 0), some (.int x1), some (.int x2), some (.int x3), some (.int x4), some (.ref (b + 1)), some (.int (I (b + 1) (zx ((x2 * 6) + x3))))] [.int ((x2 * 6) + x3), .ref (b + 1)] (zh b I L) R
            refine zi_iload dX11_put_87 rfl ?_
            have o24 := K.1
            have K := K.2
            refine zg_iastore dX11_put_89 (hb.hl.s1) (hb.hl.lt 1 (Nat.le_of_ble_eq_true rfl)) o24 ?_
            refine zi_iload dX11_put_90 rfl ?_
            subst K
            exact zi_ireturn dX11_put_92 rfl rfl
        · have K := K.2 (zb_0 c19)
          refine zi_aload_n dX11_put_40 rfl rfl ?_
          refine zi_bipush (v := (-2)) dX11_put_41 (by decide) ?_
          obtain ⟨r25, I26, h27, K⟩ := K
          refine zi_callV (N := mX11_refuseBad) (av := [.int (-2)]) (st := []) (R1 := (some (.int r25), zh b I26 L)) dX11_put_43 okX11_refuseBad u_297 u_299 s_0 zc11 (rfl) (Nat.le_of_ble_eq_true rfl) arX11_refuseBad rfl (Nat.le_of_ble_eq_true rfl) (h27) hR ?_
          show zA G (d + 3) mX11_put 46 [some (.ref 0), some (.int x1), some (.int x2), some (.int x3), some (.int x4), none, none] [.int r25] (zh b I26 L) R
          subst K
          exact zi_ireturn dX11_put_46 rfl rfl
set_option maxRecDepth 100000 in
theorem tX11_at_0 {G : zG} {d b : Nat} {I : Nat → Nat → Int32} {L : Nat → Nat → Int64} {R : zR} {x1 : Int32} {x2 : Int32} {x3 : Int32} (hb : zbl b) (hR : zR0 R)
    (K : ((¬ (0 ≤ x1 ∧ x1 ≤ 1) → (∃ (r2 : Int32) (I3 : Nat → Nat → Int32), zCall (d + 2) mX11_refuseBad [.ref 0, .int (-2)] (zh b I L) (some (.int r2), zh b I3 L) ∧ R = (some (.int r2), zh b I3 L))) ∧ ((0 ≤ x1 ∧ x1 ≤ 1) → ((((0 ≤ x2 ∧ x2 ≤ I b 0 - 1) ∧ (0 ≤ x3 ∧ x3 ≤ I b 1 - 1)) → ((¬ x1 = 0 → (vp_in ((x2 * 6) + x3) 48 ∧ R = (some (.int (I (b + 2) (zx ((x2 * 6) + x3)))), zh b I L))) ∧ (x1 = 0 → (vp_in ((x2 * 6) + x3) 48 ∧ R = (some (.int (I (b + 1) (zx ((x2 * 6) + x3)))), zh b I L))))) ∧ (¬ ((0 ≤ x2 ∧ x2 ≤ I b 0 - 1) ∧ (0 ≤ x3 ∧ x3 ≤ I b 1 - 1)) → (∃ (r9 : Int32) (I10 : Nat → Nat → Int32), zCall (d + 2) mX11_refuseBad [.ref 0, .int (-2)] (zh b I L) (some (.int r9), zh b I10 L) ∧ R = (some (.int r9), zh b I10 L))))))) :
    zA G (d + 3) mX11_at 0 [some (.ref 0), some (.int x1), some (.int x2), some (.int x3)] [] (zh b I L) R := by
  refine zi_iload_n dX11_at_0 rfl rfl ?_
  refine zi_iconst (v := 0) dX11_at_1 (by decide) ?_
  refine zi_iconst (v := 1) dX11_at_2 (by decide) ?_
  refine zi_callS (N := mX11_within) (av := [.int x1, .int 0, .int 1]) (st := []) (R1 := (some (.int (zb (0 ≤ x1 ∧ x1 ≤ 1))), zh b I L)) dX11_at_3 okX11_within u_294 u_295 arX11_within rfl (Nat.le_of_ble_eq_true rfl) (kX11_within _ _ _) hR ?_
  show zA G (d + 3) mX11_at 6 [some (.ref 0), some (.int x1), some (.int x2), some (.int x3)] [.int (zb (0 ≤ x1 ∧ x1 ≤ 1))] (zh b I L) R
  refine zi_if_eq (tgt := 21) dX11_at_6 (by decide) (fun c1 => ?_) (fun c1 => ?_)
  · have K := K.1 (zb_0 c1)
    refine zi_aload_n dX11_at_21 rfl rfl ?_
    refine zi_bipush (v := (-2)) dX11_at_22 (by decide) ?_
    obtain ⟨r2, I3, h4, K⟩ := K
    refine zi_callV (N := mX11_refuseBad) (av := [.int (-2)]) (st := []) (R1 := (some (.int r2), zh b I3 L)) dX11_at_24 okX11_refuseBad u_297 u_299 s_0 zc11 (rfl) (Nat.le_of_ble_eq_true rfl) arX11_refuseBad rfl (Nat.le_of_ble_eq_true rfl) (h4) hR ?_
    show zA G (d + 3) mX11_at 27 [some (.ref 0), some (.int x1), some (.int x2), some (.int x3)] [.int r2] (zh b I3 L) R
    subst K
    exact zi_ireturn dX11_at_27 rfl rfl
  · have K := K.2 (zb_1 c1)
    refine zi_aload_n dX11_at_9 rfl rfl ?_
    refine zg_getF (k := 0) (v := .ref b) dX11_at_10 zc11 rfl (Nat.le_of_ble_eq_true rfl) (Nat.le_of_ble_eq_true rfl) u_244 rfl (rfl) ?_
    refine zi_iload_n dX11_at_13 rfl rfl ?_
    refine zi_iload_n dX11_at_14 rfl rfl ?_
    refine zi_callV (N := mX4_hasCell) (av := [.int x2, .int x3]) (st := []) (R1 := (some (.int (zb ((0 ≤ x2 ∧ x2 ≤ I b 0 - 1) ∧ (0 ≤ x3 ∧ x3 ≤ I b 1 - 1)))), zh b I L)) dX11_at_15 okX4_hasCell u_305 u_306 u_307 zc4 (hb.hl.sh) hb.hl.l0 arX4_hasCell rfl (Nat.le_of_ble_eq_true rfl) (kX4_hasCell hb.hl _ _) hR ?_
    show zA G (d + 3) mX11_at 18 [some (.ref 0), some (.int x1), some (.int x2), some (.int x3)] [.int (zb ((0 ≤ x2 ∧ x2 ≤ I b 0 - 1) ∧ (0 ≤ x3 ∧ x3 ≤ I b 1 - 1)))] (zh b I L) R
    refine zi_if_ne (tgt := 28) dX11_at_18 (by decide) (fun c5 => ?_) (fun c5 => ?_)
    · have K := K.1 (zb_1 c5)
      refine zi_iload_n dX11_at_28 rfl rfl ?_
      refine zi_if_ne (tgt := 48) dX11_at_29 (by decide) (fun c6 => ?_) (fun c6 => ?_)
      · have K := K.1 c6
        refine zi_aload_n dX11_at_48 rfl rfl ?_
        refine zg_getF (k := 0) (v := .ref b) dX11_at_49 zc11 rfl (Nat.le_of_ble_eq_true rfl) (Nat.le_of_ble_eq_true rfl) u_244 rfl (rfl) ?_
        refine zg_getF (k := 6) (v := .ref (b + 2)) dX11_at_52 zc4 hb.hl.sh hb.hl.l0 (Nat.le_of_ble_eq_true rfl) u_63 rfl (hb.hl.f6) ?_
        refine zi_iload_n dX11_at_55 rfl rfl ?_
        refine zi_iload_n dX11_at_56 rfl rfl ?_
        refine zi_callS (N := mX11_cell) (av := [.int x2, .int x3]) (st := [.ref (b + 2)]) (R1 := (some (.int ((x2 * 6) + x3)), zh b I L)) dX11_at_57 okX11_cell u_314 u_315 arX11_cell rfl (Nat.le_of_ble_eq_true rfl) (kX11_cell _ _) hR ?_
        show zA G (d + 3) mX11_at 60 [some (.ref 0), some (.int x1), some (.int x2), some (.int x3)] [.int ((x2 * 6) + x3), .ref (b + 2)] (zh b I L) R
        have o7 := K.1
        have K := K.2
        refine zg_iaload dX11_at_60 (hb.hl.s2) (hb.hl.lt 2 (Nat.le_of_ble_eq_true rfl)) o7 ?_
        subst K
        exact zi_ireturn dX11_at_61 rfl rfl
      · have K := K.2 c6
        refine zi_aload_n dX11_at_32 rfl rfl ?_
        refine zg_getF (k := 0) (v := .ref b) dX11_at_33 zc11 rfl (Nat.le_of_ble_eq_true rfl) (Nat.le_of_ble_eq_true rfl) u_244 rfl (rfl) ?_
        refine zg_getF (k := 5) (v := .ref (b + 1)) dX11_at_36 zc4 hb.hl.sh hb.hl.l0 (Nat.le_of_ble_eq_true rfl) u_56 rfl (hb.hl.f5) ?_
        refine zi_iload_n dX11_at_39 rfl rfl ?_
        refine zi_iload_n dX11_at_40 rfl rfl ?_
        refine zi_callS (N := mX11_cell) (av := [.int x2, .int x3]) (st := [.ref (b + 1)]) (R1 := (some (.int ((x2 * 6) + x3)), zh b I L)) dX11_at_41 okX11_cell u_314 u_315 arX11_cell rfl (Nat.le_of_ble_eq_true rfl) (kX11_cell _ _) hR ?_
        show zA G (d + 3) mX11_at 44 [some (.ref 0), some (.int x1), some (.int x2), some (.int x3)] [.int ((x2 * 6) + x3), .ref (b + 1)] (zh b I L) R
        have o8 := K.1
        have K := K.2
        refine zg_iaload dX11_at_44 (hb.hl.s1) (hb.hl.lt 1 (Nat.le_of_ble_eq_true rfl)) o8 ?_
        refine zi_goto (tgt := 61) dX11_at_45 (by decide) ?_
        subst K
        exact zi_ireturn dX11_at_61 rfl rfl
    · have K := K.2 (zb_0 c5)
      refine zi_aload_n dX11_at_21 rfl rfl ?_
      refine zi_bipush (v := (-2)) dX11_at_22 (by decide) ?_
      obtain ⟨r9, I10, h11, K⟩ := K
      refine zi_callV (N := mX11_refuseBad) (av := [.int (-2)]) (st := []) (R1 := (some (.int r9), zh b I10 L)) dX11_at_24 okX11_refuseBad u_297 u_299 s_0 zc11 (rfl) (Nat.le_of_ble_eq_true rfl) arX11_refuseBad rfl (Nat.le_of_ble_eq_true rfl) (h11) hR ?_
      show zA G (d + 3) mX11_at 27 [some (.ref 0), some (.int x1), some (.int x2), some (.int x3)] [.int r9] (zh b I10 L) R
      subst K
      exact zi_ireturn dX11_at_27 rfl rfl
set_option maxRecDepth 100000 in
theorem tX11_runner_0 {G : zG} {d b : Nat} {I : Nat → Nat → Int32} {L : Nat → Nat → Int64} {R : zR} {x1 : Int32} {x2 : Int32} {x3 : Int32} (hb : zbl b) (hR : zR0 R)
    (K : ((¬ (0 ≤ x1 ∧ x1 ≤ 4) → (∃ (r2 : Int32) (I3 : Nat → Nat → Int32), zCall (d + 1) mX11_refuseBad [.ref 0, .int (-2)] (zh b I L) (some (.int r2), zh b I3 L) ∧ R = (some (.int r2), zh b I3 L))) ∧ ((0 ≤ x1 ∧ x1 ≤ 4) → ((¬ (0 ≤ x2 ∧ x2 ≤ ((I b 1) - 1)) → (∃ (r6 : Int32) (I7 : Nat → Nat → Int32), zCall (d + 1) mX11_refuseBad [.ref 0, .int (-2)] (zh b I L) (some (.int r6), zh b I7 L) ∧ R = (some (.int r6), zh b I7 L))) ∧ ((0 ≤ x2 ∧ x2 ≤ ((I b 1) - 1)) → (((0 ≤ x3 ∧ x3 ≤ 99) → (((I b 2) < 6 → (∃ (I11 : Nat → Nat → Int32), zCall (d + 1) mX4_addRunner [.ref b, .int x1, .int x2, .int x3] (zh b I L) (none, zh b I11 L) ∧ R = (some (.int ((I11 b 2) - 1)), zh b I11 L))) ∧ (¬ (I b 2) < 6 → (∃ (r13 : Int32) (I14 : Nat → Nat → Int32), zCall (d + 1) mX11_refuseFull [.ref 0] (zh b I L) (some (.int r13), zh b I14 L) ∧ R = (some (.int r13), zh b I14 L))))) ∧ (¬ (0 ≤ x3 ∧ x3 ≤ 99) → (∃ (r16 : Int32) (I17 : Nat → Nat → Int32), zCall (d + 1) mX11_refuseBad [.ref 0, .int (-2)] (zh b I L) (some (.int r16), zh b I17 L) ∧ R = (some (.int r16), zh b I17 L))))))))) :
    zA G (d + 2) mX11_runner 0 [some (.ref 0), some (.int x1), some (.int x2), some (.int x3)] [] (zh b I L) R := by
  refine zi_iload_n dX11_runner_0 rfl rfl ?_
  refine zi_iconst (v := 0) dX11_runner_1 (by decide) ?_
  refine zi_iconst (v := 4) dX11_runner_2 (by decide) ?_
  refine zi_callS (N := mX11_within) (av := [.int x1, .int 0, .int 4]) (st := []) (R1 := (some (.int (zb (0 ≤ x1 ∧ x1 ≤ 4))), zh b I L)) dX11_runner_3 okX11_within u_294 u_295 arX11_within rfl (Nat.le_of_ble_eq_true rfl) (kX11_within _ _ _) hR ?_
  show zA G (d + 2) mX11_runner 6 [some (.ref 0), some (.int x1), some (.int x2), some (.int x3)] [.int (zb (0 ≤ x1 ∧ x1 ≤ 4))] (zh b I L) R
  refine zi_if_eq (tgt := 36) dX11_runner_6 (by decide) (fun c1 => ?_) (fun c1 => ?_)
  · have K := K.1 (zb_0 c1)
    refine zi_aload_n dX11_runner_36 rfl rfl ?_
    refine zi_bipush (v := (-2)) dX11_runner_37 (by decide) ?_
    obtain ⟨r2, I3, h4, K⟩ := K
    refine zi_callV (N := mX11_refuseBad) (av := [.int (-2)]) (st := []) (R1 := (some (.int r2), zh b I3 L)) dX11_runner_39 okX11_refuseBad u_297 u_299 s_0 zc11 (rfl) (Nat.le_of_ble_eq_true rfl) arX11_refuseBad rfl (Nat.le_of_ble_eq_true rfl) (h4) hR ?_
    show zA G (d + 2) mX11_runner 42 [some (.ref 0), some (.int x1), some (.int x2), some (.int x3)] [.int r2] (zh b I3 L) R
    subst K
    exact zi_ireturn dX11_runner_42 rfl rfl
  · have K := K.2 (zb_1 c1)
    refine zi_iload_n dX11_runner_9 rfl rfl ?_
    refine zi_iconst (v := 0) dX11_runner_10 (by decide) ?_
    refine zi_aload_n dX11_runner_11 rfl rfl ?_
    refine zg_getF (k := 0) (v := .ref b) dX11_runner_12 zc11 rfl (Nat.le_of_ble_eq_true rfl) (Nat.le_of_ble_eq_true rfl) u_244 rfl (rfl) ?_
    refine zg_getI (k := 1) dX11_runner_15 zc4 hb.hl.sh hb.hl.l0 (Nat.le_of_ble_eq_true rfl) u_44 rfl ?_
    refine zi_iconst (v := 1) dX11_runner_18 (by decide) ?_
    refine zi_isub dX11_runner_19 ?_
    refine zi_callS (N := mX11_within) (av := [.int x2, .int 0, .int ((I b 1) - 1)]) (st := []) (R1 := (some (.int (zb (0 ≤ x2 ∧ x2 ≤ ((I b 1) - 1)))), zh b I L)) dX11_runner_20 okX11_within u_294 u_295 arX11_within rfl (Nat.le_of_ble_eq_true rfl) (kX11_within _ _ _) hR ?_
    show zA G (d + 2) mX11_runner 23 [some (.ref 0), some (.int x1), some (.int x2), some (.int x3)] [.int (zb (0 ≤ x2 ∧ x2 ≤ ((I b 1) - 1)))] (zh b I L) R
    refine zi_if_eq (tgt := 36) dX11_runner_23 (by decide) (fun c5 => ?_) (fun c5 => ?_)
    · have K := K.1 (zb_0 c5)
      refine zi_aload_n dX11_runner_36 rfl rfl ?_
      refine zi_bipush (v := (-2)) dX11_runner_37 (by decide) ?_
      obtain ⟨r6, I7, h8, K⟩ := K
      refine zi_callV (N := mX11_refuseBad) (av := [.int (-2)]) (st := []) (R1 := (some (.int r6), zh b I7 L)) dX11_runner_39 okX11_refuseBad u_297 u_299 s_0 zc11 (rfl) (Nat.le_of_ble_eq_true rfl) arX11_refuseBad rfl (Nat.le_of_ble_eq_true rfl) (h8) hR ?_
      show zA G (d + 2) mX11_runner 42 [some (.ref 0), some (.int x1), some (.int x2), some (.int x3)] [.int r6] (zh b I7 L) R
      subst K
      exact zi_ireturn dX11_runner_42 rfl rfl
    · have K := K.2 (zb_1 c5)
      refine zi_iload_n dX11_runner_26 rfl rfl ?_
      refine zi_iconst (v := 0) dX11_runner_27 (by decide) ?_
      refine zi_bipush (v := 99) dX11_runner_28 (by decide) ?_
      refine zi_callS (N := mX11_within) (av := [.int x3, .int 0, .int 99]) (st := []) (R1 := (some (.int (zb (0 ≤ x3 ∧ x3 ≤ 99))), zh b I L)) dX11_runner_30 okX11_within u_294 u_295 arX11_within rfl (Nat.le_of_ble_eq_true rfl) (kX11_within _ _ _) hR ?_
      show zA G (d + 2) mX11_runner 33 [some (.ref 0), some (.int x1), some (.int x2), some (.int x3)] [.int (zb (0 ≤ x3 ∧ x3 ≤ 99))] (zh b I L) R
      refine zi_if_ne (tgt := 43) dX11_runner_33 (by decide) (fun c9 => ?_) (fun c9 => ?_)
      · have K := K.1 (zb_1 c9)
        refine zi_aload_n dX11_runner_43 rfl rfl ?_
        refine zg_getF (k := 0) (v := .ref b) dX11_runner_44 zc11 rfl (Nat.le_of_ble_eq_true rfl) (Nat.le_of_ble_eq_true rfl) u_244 rfl (rfl) ?_
        refine zg_getI (k := 2) dX11_runner_47 zc4 hb.hl.sh hb.hl.l0 (Nat.le_of_ble_eq_true rfl) u_48 rfl ?_
        refine zi_bipush (v := 6) dX11_runner_50 (by decide) ?_
        refine zi_icmp_lt (tgt := 60) dX11_runner_52 (by decide) (fun c10 => ?_) (fun c10 => ?_)
        · have K := K.1 c10
          refine zi_aload_n dX11_runner_60 rfl rfl ?_
          refine zg_getF (k := 0) (v := .ref b) dX11_runner_61 zc11 rfl (Nat.le_of_ble_eq_true rfl) (Nat.le_of_ble_eq_true rfl) u_244 rfl (rfl) ?_
          refine zi_iload_n dX11_runner_64 rfl rfl ?_
          refine zi_iload_n dX11_runner_65 rfl rfl ?_
          refine zi_iload_n dX11_runner_66 rfl rfl ?_
          obtain ⟨I11, h12, K⟩ := K
          refine zi_callV (N := mX4_addRunner) (av := [.int x1, .int x2, .int x3]) (st := []) (R1 := (none, zh b I11 L)) dX11_runner_67 okX4_addRunner u_329 u_330 u_331 zc4 (hb.hl.sh) hb.hl.l0 arX4_addRunner rfl (Nat.le_of_ble_eq_true rfl) (h12) hR ?_
          show zA G (d + 2) mX11_runner 70 [some (.ref 0), some (.int x1), some (.int x2), some (.int x3)] [] (zh b I11 L) R
          refine zi_aload_n dX11_runner_70 rfl rfl ?_
          refine zg_getF (k := 0) (v := .ref b) dX11_runner_71 zc11 rfl (Nat.le_of_ble_eq_true rfl) (Nat.le_of_ble_eq_true rfl) u_244 rfl (rfl) ?_
          refine zg_getI (k := 2) dX11_runner_74 zc4 hb.hl.sh hb.hl.l0 (Nat.le_of_ble_eq_true rfl) u_48 rfl ?_
          refine zi_iconst (v := 1) dX11_runner_77 (by decide) ?_
          refine zi_isub dX11_runner_78 ?_
          subst K
          exact zi_ireturn dX11_runner_79 rfl rfl
        · have K := K.2 c10
          refine zi_aload_n dX11_runner_55 rfl rfl ?_
          obtain ⟨r13, I14, h15, K⟩ := K
          refine zi_callV (N := mX11_refuseFull) (av := []) (st := []) (R1 := (some (.int r13), zh b I14 L)) dX11_runner_56 okX11_refuseFull u_325 u_327 s_1 zc11 (rfl) (Nat.le_of_ble_eq_true rfl) arX11_refuseFull rfl (Nat.le_of_ble_eq_true rfl) (h15) hR ?_
          show zA G (d + 2) mX11_runner 59 [some (.ref 0), some (.int x1), some (.int x2), some (.int x3)] [.int r13] (zh b I14 L) R
          subst K
          exact zi_ireturn dX11_runner_59 rfl rfl
      · have K := K.2 (zb_0 c9)
        refine zi_aload_n dX11_runner_36 rfl rfl ?_
        refine zi_bipush (v := (-2)) dX11_runner_37 (by decide) ?_
        obtain ⟨r16, I17, h18, K⟩ := K
        refine zi_callV (N := mX11_refuseBad) (av := [.int (-2)]) (st := []) (R1 := (some (.int r16), zh b I17 L)) dX11_runner_39 okX11_refuseBad u_297 u_299 s_0 zc11 (rfl) (Nat.le_of_ble_eq_true rfl) arX11_refuseBad rfl (Nat.le_of_ble_eq_true rfl) (h18) hR ?_
        show zA G (d + 2) mX11_runner 42 [some (.ref 0), some (.int x1), some (.int x2), some (.int x3)] [.int r16] (zh b I17 L) R
        subst K
        exact zi_ireturn dX11_runner_42 rfl rfl
set_option maxRecDepth 100000 in
theorem tX11_line_0 {G : zG} {d b : Nat} {I : Nat → Nat → Int32} {L : Nat → Nat → Int64} {R : zR} {x1 : Int32} {x2 : Int32} {x3 : Int32} (hb : zbl b) (hR : zR0 R)
    (K : ((¬ (0 ≤ x1 ∧ x1 ≤ I b 2 - 1) → (∃ (r2 : Int32) (I3 : Nat → Nat → Int32), zCall (d + 1) mX11_refuseBad [.ref 0, .int (-2)] (zh b I L) (some (.int r2), zh b I3 L) ∧ R = (some (.int r2), zh b I3 L))) ∧ ((0 ≤ x1 ∧ x1 ≤ I b 2 - 1) → ((¬ (0 ≤ x2 ∧ x2 ≤ I b 0 - 1) → (∃ (r6 : Int32) (I7 : Nat → Nat → Int32), zCall (d + 1) mX11_refuseBad [.ref 0, .int (-2)] (zh b I L) (some (.int r6), zh b I7 L) ∧ R = (some (.int r6), zh b I7 L))) ∧ ((0 ≤ x2 ∧ x2 ≤ I b 0 - 1) → (((0 ≤ x3 ∧ x3 ≤ 2) → (vp_in ((x1 * 8) + x2) 48 ∧ (vp_in ((x1 * 8) + x2) 48 ∧ R = (some (.int (I (b + 6) (zx ((x1 * 8) + x2)))), zh b (zup I (b + 6) (zx ((x1 * 8) + x2)) x3) L)))) ∧ (¬ (0 ≤ x3 ∧ x3 ≤ 2) → (∃ (r12 : Int32) (I13 : Nat → Nat → Int32), zCall (d + 1) mX11_refuseBad [.ref 0, .int (-2)] (zh b I L) (some (.int r12), zh b I13 L) ∧ R = (some (.int r12), zh b I13 L))))))))) :
    zA G (d + 2) mX11_line 0 [some (.ref 0), some (.int x1), some (.int x2), some (.int x3), none] [] (zh b I L) R := by
  refine zi_aload_n dX11_line_0 rfl rfl ?_
  refine zg_getF (k := 0) (v := .ref b) dX11_line_1 zc11 rfl (Nat.le_of_ble_eq_true rfl) (Nat.le_of_ble_eq_true rfl) u_244 rfl (rfl) ?_
  refine zi_iload_n dX11_line_4 rfl rfl ?_
  refine zi_callV (N := mX4_hasRunner) (av := [.int x1]) (st := []) (R1 := (some (.int (zb (0 ≤ x1 ∧ x1 ≤ I b 2 - 1))), zh b I L)) dX11_line_5 okX4_hasRunner u_340 u_341 u_342 zc4 (hb.hl.sh) hb.hl.l0 arX4_hasRunner rfl (Nat.le_of_ble_eq_true rfl) (kX4_hasRunner hb.hl _) hR ?_
  show zA G (d + 2) mX11_line 8 [some (.ref 0), some (.int x1), some (.int x2), some (.int x3), none] [.int (zb (0 ≤ x1 ∧ x1 ≤ I b 2 - 1))] (zh b I L) R
  refine zi_if_eq (tgt := 31) dX11_line_8 (by decide) (fun c1 => ?_) (fun c1 => ?_)
  · have K := K.1 (zb_0 c1)
    refine zi_aload_n dX11_line_31 rfl rfl ?_
    refine zi_bipush (v := (-2)) dX11_line_32 (by decide) ?_
    obtain ⟨r2, I3, h4, K⟩ := K
    refine zi_callV (N := mX11_refuseBad) (av := [.int (-2)]) (st := []) (R1 := (some (.int r2), zh b I3 L)) dX11_line_34 okX11_refuseBad u_297 u_299 s_0 zc11 (rfl) (Nat.le_of_ble_eq_true rfl) arX11_refuseBad rfl (Nat.le_of_ble_eq_true rfl) (h4) hR ?_
    show zA G (d + 2) mX11_line 37 [some (.ref 0), some (.int x1), some (.int x2), some (.int x3), none] [.int r2] (zh b I3 L) R
    subst K
    exact zi_ireturn dX11_line_37 rfl rfl
  · have K := K.2 (zb_1 c1)
    refine zi_aload_n dX11_line_11 rfl rfl ?_
    refine zg_getF (k := 0) (v := .ref b) dX11_line_12 zc11 rfl (Nat.le_of_ble_eq_true rfl) (Nat.le_of_ble_eq_true rfl) u_244 rfl (rfl) ?_
    refine zi_iload_n dX11_line_15 rfl rfl ?_
    refine zi_callV (N := mX4_hasRow) (av := [.int x2]) (st := []) (R1 := (some (.int (zb (0 ≤ x2 ∧ x2 ≤ I b 0 - 1))), zh b I L)) dX11_line_16 okX4_hasRow u_344 u_310 u_311 zc4 (hb.hl.sh) hb.hl.l0 arX4_hasRow rfl (Nat.le_of_ble_eq_true rfl) (kX4_hasRow hb.hl _) hR ?_
    show zA G (d + 2) mX11_line 19 [some (.ref 0), some (.int x1), some (.int x2), some (.int x3), none] [.int (zb (0 ≤ x2 ∧ x2 ≤ I b 0 - 1))] (zh b I L) R
    refine zi_if_eq (tgt := 31) dX11_line_19 (by decide) (fun c5 => ?_) (fun c5 => ?_)
    · have K := K.1 (zb_0 c5)
      refine zi_aload_n dX11_line_31 rfl rfl ?_
      refine zi_bipush (v := (-2)) dX11_line_32 (by decide) ?_
      obtain ⟨r6, I7, h8, K⟩ := K
      refine zi_callV (N := mX11_refuseBad) (av := [.int (-2)]) (st := []) (R1 := (some (.int r6), zh b I7 L)) dX11_line_34 okX11_refuseBad u_297 u_299 s_0 zc11 (rfl) (Nat.le_of_ble_eq_true rfl) arX11_refuseBad rfl (Nat.le_of_ble_eq_true rfl) (h8) hR ?_
      show zA G (d + 2) mX11_line 37 [some (.ref 0), some (.int x1), some (.int x2), some (.int x3), none] [.int r6] (zh b I7 L) R
      subst K
      exact zi_ireturn dX11_line_37 rfl rfl
    · have K := K.2 (zb_1 c5)
      refine zi_iload_n dX11_line_22 rfl rfl ?_
      refine zi_iconst (v := 0) dX11_line_23 (by decide) ?_
      refine zi_iconst (v := 2) dX11_line_24 (by decide) ?_
      refine zi_callS (N := mX11_within) (av := [.int x3, .int 0, .int 2]) (st := []) (R1 := (some (.int (zb (0 ≤ x3 ∧ x3 ≤ 2))), zh b I L)) dX11_line_25 okX11_within u_294 u_295 arX11_within rfl (Nat.le_of_ble_eq_true rfl) (kX11_within _ _ _) hR ?_
      show zA G (d + 2) mX11_line 28 [some (.ref 0), some (.int x1), some (.int x2), some (.int x3), none] [.int (zb (0 ≤ x3 ∧ x3 ≤ 2))] (zh b I L) R
      refine zi_if_ne (tgt := 38) dX11_line_28 (by decide) (fun c9 => ?_) (fun c9 => ?_)
      · have K := K.1 (zb_1 c9)
        refine zi_aload_n dX11_line_38 rfl rfl ?_
        refine zg_getF (k := 0) (v := .ref b) dX11_line_39 zc11 rfl (Nat.le_of_ble_eq_true rfl) (Nat.le_of_ble_eq_true rfl) u_244 rfl (rfl) ?_
        refine zg_getF (k := 10) (v := .ref (b + 6)) dX11_line_42 zc4 hb.hl.sh hb.hl.l0 (Nat.le_of_ble_eq_true rfl) u_75 rfl (hb.hl.f10) ?_
        refine zi_iload_n dX11_line_45 rfl rfl ?_
        refine zi_iload_n dX11_line_46 rfl rfl ?_
        refine zi_callS (N := mX11_onLine) (av := [.int x1, .int x2]) (st := [.ref (b + 6)]) (R1 := (some (.int ((x1 * 8) + x2)), zh b I L)) dX11_line_47 okX11_onLine u_345 u_334 arX11_onLine rfl (Nat.le_of_ble_eq_true rfl) (kX11_onLine _ _) hR ?_
        show zA G (d + 2) mX11_line 50 [some (.ref 0), some (.int x1), some (.int x2), some (.int x3), none] [.int ((x1 * 8) + x2), .ref (b + 6)] (zh b I L) R
        have o10 := K.1
        have K := K.2
        refine zg_iaload dX11_line_50 (hb.hl.s6) (hb.hl.lt 6 (Nat.le_of_ble_eq_true rfl)) o10 ?_
        refine zi_istore (ls' := [some (.ref 0), some (.int x1), some (.int x2), some (.int x3), some (.int (I (b + 6) (zx ((x1 * 8) + x2))))]) dX11_line_51 (by decide) rfl ?_
        refine zi_aload_n dX11_line_53 rfl rfl ?_
        refine zg_getF (k := 0) (v := .ref b) dX11_line_54 zc11 rfl (Nat.le_of_ble_eq_true rfl) (Nat.le_of_ble_eq_true rfl) u_244 rfl (rfl) ?_
        refine zg_getF (k := 10) (v := .ref (b + 6)) dX11_line_57 zc4 hb.hl.sh hb.hl.l0 (Nat.le_of_ble_eq_true rfl) u_75 rfl (hb.hl.f10) ?_
        refine zi_iload_n dX11_line_60 rfl rfl ?_
        refine zi_iload_n dX11_line_61 rfl rfl ?_
        refine zi_callS (N := mX11_onLine) (av := [.int x1, .int x2]) (st := [.ref (b + 6)]) (R1 := (some (.int ((x1 * 8) + x2)), zh b I L)) dX11_line_62 okX11_onLine u_345 u_334 arX11_onLine rfl (Nat.le_of_ble_eq_true rfl) (kX11_onLine _ _) hR ?_
        show zA G (d + 2) mX11_line 65 [some (.ref 0), some (.int x1), some (.int x2), some (.int x3), some (.int (I (b + 6) (zx ((x1 * 8) + x2))))] [.int ((x1 * 8) + x2), .ref (b + 6)] (zh b I L) R
        refine zi_iload_n dX11_line_65 rfl rfl ?_
        have o11 := K.1
        have K := K.2
        refine zg_iastore dX11_line_66 (hb.hl.s6) (hb.hl.lt 6 (Nat.le_of_ble_eq_true rfl)) o11 ?_
        refine zi_iload dX11_line_67 rfl ?_
        subst K
        exact zi_ireturn dX11_line_69 rfl rfl
      · have K := K.2 (zb_0 c9)
        refine zi_aload_n dX11_line_31 rfl rfl ?_
        refine zi_bipush (v := (-2)) dX11_line_32 (by decide) ?_
        obtain ⟨r12, I13, h14, K⟩ := K
        refine zi_callV (N := mX11_refuseBad) (av := [.int (-2)]) (st := []) (R1 := (some (.int r12), zh b I13 L)) dX11_line_34 okX11_refuseBad u_297 u_299 s_0 zc11 (rfl) (Nat.le_of_ble_eq_true rfl) arX11_refuseBad rfl (Nat.le_of_ble_eq_true rfl) (h14) hR ?_
        show zA G (d + 2) mX11_line 37 [some (.ref 0), some (.int x1), some (.int x2), some (.int x3), none] [.int r12] (zh b I13 L) R
        subst K
        exact zi_ireturn dX11_line_37 rfl rfl
set_option maxRecDepth 100000 in
theorem tX11_type_0 {G : zG} {d b : Nat} {I : Nat → Nat → Int32} {L : Nat → Nat → Int64} {R : zR} {x1 : Int64} {x3 : Int32} (hR : zR0 R)
    (K : (((1 ≤ x3 ∧ x3 ≤ 8) → ((((I 53 1) + x3) ≤ 250 → (∃ (I3 : Nat → Nat → Int32), zCall d mX7_append [.ref 53, .long x1, .int x3] (zh b I L) (none, zh b I3 L) ∧ R = (some (.int (I3 53 1)), zh b I3 L))) ∧ (¬ ((I 53 1) + x3) ≤ 250 → (∃ (r5 : Int32) (I6 : Nat → Nat → Int32), zCall d mX11_refuseFull [.ref 0] (zh b I L) (some (.int r5), zh b I6 L) ∧ R = (some (.int r5), zh b I6 L))))) ∧ (¬ (1 ≤ x3 ∧ x3 ≤ 8) → (∃ (r8 : Int32) (I9 : Nat → Nat → Int32), zCall d mX11_refuseBad [.ref 0, .int (-2)] (zh b I L) (some (.int r8), zh b I9 L) ∧ R = (some (.int r8), zh b I9 L))))) :
    zA G (d + 1) mX11_type 0 [some (.ref 0), some (.long x1), none, some (.int x3)] [] (zh b I L) R := by
  refine zi_iload_n dX11_type_0 rfl rfl ?_
  refine zi_iconst (v := 1) dX11_type_1 (by decide) ?_
  refine zi_bipush (v := 8) dX11_type_2 (by decide) ?_
  refine zi_callS (N := mX11_within) (av := [.int x3, .int 1, .int 8]) (st := []) (R1 := (some (.int (zb (1 ≤ x3 ∧ x3 ≤ 8))), zh b I L)) dX11_type_4 okX11_within u_294 u_295 arX11_within rfl (Nat.le_of_ble_eq_true rfl) (kX11_within _ _ _) hR ?_
  show zA G (d + 1) mX11_type 7 [some (.ref 0), some (.long x1), none, some (.int x3)] [.int (zb (1 ≤ x3 ∧ x3 ≤ 8))] (zh b I L) R
  refine zi_if_ne (tgt := 17) dX11_type_7 (by decide) (fun c1 => ?_) (fun c1 => ?_)
  · have K := K.1 (zb_1 c1)
    refine zi_aload_n dX11_type_17 rfl rfl ?_
    refine zg_getF (k := 8) (v := .ref 53) dX11_type_18 zc11 rfl (Nat.le_of_ble_eq_true rfl) (Nat.le_of_ble_eq_true rfl) u_252 rfl (rfl) ?_
    refine zg_getI (k := 1) dX11_type_21 zc7 rfl (Nat.le_of_ble_eq_true rfl) (Nat.le_of_ble_eq_true rfl) u_221 rfl ?_
    refine zi_iload_n dX11_type_24 rfl rfl ?_
    refine zi_iadd dX11_type_25 ?_
    refine zi_sipush (v := 250) dX11_type_26 (by decide) ?_
    refine zi_icmp_le (tgt := 37) dX11_type_29 (by decide) (fun c2 => ?_) (fun c2 => ?_)
    · have K := K.1 c2
      refine zi_aload_n dX11_type_37 rfl rfl ?_
      refine zg_getF (k := 8) (v := .ref 53) dX11_type_38 zc11 rfl (Nat.le_of_ble_eq_true rfl) (Nat.le_of_ble_eq_true rfl) u_252 rfl (rfl) ?_
      refine zi_lload_n dX11_type_41 rfl rfl ?_
      refine zi_iload_n dX11_type_42 rfl rfl ?_
      obtain ⟨I3, h4, K⟩ := K
      refine zi_callV (N := mX7_append) (av := [.long x1, .int x3]) (st := []) (R1 := (none, zh b I3 L)) dX11_type_43 okX7_append u_350 u_351 u_352 zc7 (rfl) (Nat.le_of_ble_eq_true rfl) arX7_append rfl (Nat.le_of_ble_eq_true rfl) (h4) hR ?_
      show zA G (d + 1) mX11_type 46 [some (.ref 0), some (.long x1), none, some (.int x3)] [] (zh b I3 L) R
      refine zi_aload_n dX11_type_46 rfl rfl ?_
      refine zg_getF (k := 8) (v := .ref 53) dX11_type_47 zc11 rfl (Nat.le_of_ble_eq_true rfl) (Nat.le_of_ble_eq_true rfl) u_252 rfl (rfl) ?_
      refine zg_getI (k := 1) dX11_type_50 zc7 rfl (Nat.le_of_ble_eq_true rfl) (Nat.le_of_ble_eq_true rfl) u_221 rfl ?_
      subst K
      exact zi_ireturn dX11_type_53 rfl rfl
    · have K := K.2 c2
      refine zi_aload_n dX11_type_32 rfl rfl ?_
      obtain ⟨r5, I6, h7, K⟩ := K
      refine zi_callV (N := mX11_refuseFull) (av := []) (st := []) (R1 := (some (.int r5), zh b I6 L)) dX11_type_33 okX11_refuseFull u_325 u_327 s_1 zc11 (rfl) (Nat.le_of_ble_eq_true rfl) arX11_refuseFull rfl (Nat.le_of_ble_eq_true rfl) (h7) hR ?_
      show zA G (d + 1) mX11_type 36 [some (.ref 0), some (.long x1), none, some (.int x3)] [.int r5] (zh b I6 L) R
      subst K
      exact zi_ireturn dX11_type_36 rfl rfl
  · have K := K.2 (zb_0 c1)
    refine zi_aload_n dX11_type_10 rfl rfl ?_
    refine zi_bipush (v := (-2)) dX11_type_11 (by decide) ?_
    obtain ⟨r8, I9, h10, K⟩ := K
    refine zi_callV (N := mX11_refuseBad) (av := [.int (-2)]) (st := []) (R1 := (some (.int r8), zh b I9 L)) dX11_type_13 okX11_refuseBad u_297 u_299 s_0 zc11 (rfl) (Nat.le_of_ble_eq_true rfl) arX11_refuseBad rfl (Nat.le_of_ble_eq_true rfl) (h10) hR ?_
    show zA G (d + 1) mX11_type 16 [some (.ref 0), some (.long x1), none, some (.int x3)] [.int r8] (zh b I9 L) R
    subst K
    exact zi_ireturn dX11_type_16 rfl rfl
set_option maxRecDepth 100000 in
theorem tX11_clear_0 {G : zG} {d b : Nat} {I : Nat → Nat → Int32} {L : Nat → Nat → Int64} {R : zR} 
    (K : R = (some (.int (I 53 1)), zh b (zup I 53 1 0) L)) :
    zA G d mX11_clear 0 [some (.ref 0), none] [] (zh b I L) R := by
  refine zi_aload_n dX11_clear_0 rfl rfl ?_
  refine zg_getF (k := 8) (v := .ref 53) dX11_clear_1 zc11 rfl (Nat.le_of_ble_eq_true rfl) (Nat.le_of_ble_eq_true rfl) u_252 rfl (rfl) ?_
  refine zg_getI (k := 1) dX11_clear_4 zc7 rfl (Nat.le_of_ble_eq_true rfl) (Nat.le_of_ble_eq_true rfl) u_221 rfl ?_
  refine zi_istore_n (ls' := [some (.ref 0), some (.int (I 53 1))]) dX11_clear_7 rfl (by decide) rfl ?_
  refine zi_aload_n dX11_clear_8 rfl rfl ?_
  refine zg_getF (k := 8) (v := .ref 53) dX11_clear_9 zc11 rfl (Nat.le_of_ble_eq_true rfl) (Nat.le_of_ble_eq_true rfl) u_252 rfl (rfl) ?_
  refine zi_iconst (v := 0) dX11_clear_12 (by decide) ?_
  refine zg_putI (k := 1) dX11_clear_13 zc7 rfl (Nat.le_of_ble_eq_true rfl) (Nat.le_of_ble_eq_true rfl) u_221 rfl rfl ?_
  refine zi_iload_n dX11_clear_16 rfl rfl ?_
  subst K
  exact zi_ireturn dX11_clear_17 rfl rfl
set_option maxRecDepth 100000 in
theorem tX11_goes_0 {G : zG} {d b : Nat} {I : Nat → Nat → Int32} {L : Nat → Nat → Int64} {R : zR} {x1 : Int32} {x2 : Int32} {x3 : Int32} (hb : zbl b) (hR : zR0 R)
    (K : ((¬ (0 ≤ x1 ∧ x1 ≤ I b 2 - 1) → (∃ (r2 : Int32) (I3 : Nat → Nat → Int32), zCall (d + 4) mX11_refuseBad [.ref 0, .int (-2)] (zh b I L) (some (.int r2), zh b I3 L) ∧ R = (some (.int r2), zh b I3 L))) ∧ ((0 ≤ x1 ∧ x1 ≤ I b 2 - 1) → ((¬ (0 ≤ x2 ∧ x2 ≤ I b 0 - 1) → (∃ (r6 : Int32) (I7 : Nat → Nat → Int32), zCall (d + 4) mX11_refuseBad [.ref 0, .int (-2)] (zh b I L) (some (.int r6), zh b I7 L) ∧ R = (some (.int r6), zh b I7 L))) ∧ ((0 ≤ x2 ∧ x2 ≤ I b 0 - 1) → (((0 ≤ x3 ∧ x3 ≤ 3) → (∃ (I10 : Nat → Nat → Int32), zCall (d + 4) mX10_follow [.ref 43, .ref b, .ref 37, .int x1, .int 8] (zh b I L) (none, zh b I10 L) ∧ (((x3.toInt < 0 ∨ 2 < x3.toInt) → (vp_in ((x1 * 9) + x2) 54 ∧ R = (some (.int (I10 47 (zx ((x1 * 9) + x2)))), zh b I10 L))) ∧ (x3 = 0 → (vp_in ((x1 * 9) + x2) 54 ∧ R = (some (.int (I10 44 (zx ((x1 * 9) + x2)))), zh b I10 L))) ∧ (x3 = 1 → (vp_in ((x1 * 9) + x2) 54 ∧ R = (some (.int (I10 45 (zx ((x1 * 9) + x2)))), zh b I10 L))) ∧ (x3 = 2 → (vp_in x1 6 ∧ (vp_in ((x1 * 9) + x2) 54 ∧ R = (some (.int ((I10 (b + 5) (zx x1)) + (I10 46 (zx ((x1 * 9) + x2))))), zh b I10 L))))))) ∧ (¬ (0 ≤ x3 ∧ x3 ≤ 3) → (∃ (r19 : Int32) (I20 : Nat → Nat → Int32), zCall (d + 4) mX11_refuseBad [.ref 0, .int (-2)] (zh b I L) (some (.int r19), zh b I20 L) ∧ R = (some (.int r19), zh b I20 L))))))))) :
    zA G (d + 5) mX11_goes 0 [some (.ref 0), some (.int x1), some (.int x2), some (.int x3)] [] (zh b I L) R := by
  refine zi_aload_n dX11_goes_0 rfl rfl ?_
  refine zg_getF (k := 0) (v := .ref b) dX11_goes_1 zc11 rfl (Nat.le_of_ble_eq_true rfl) (Nat.le_of_ble_eq_true rfl) u_244 rfl (rfl) ?_
  refine zi_iload_n dX11_goes_4 rfl rfl ?_
  refine zi_callV (N := mX4_hasRunner) (av := [.int x1]) (st := []) (R1 := (some (.int (zb (0 ≤ x1 ∧ x1 ≤ I b 2 - 1))), zh b I L)) dX11_goes_5 okX4_hasRunner u_340 u_341 u_342 zc4 (hb.hl.sh) hb.hl.l0 arX4_hasRunner rfl (Nat.le_of_ble_eq_true rfl) (kX4_hasRunner hb.hl _) hR ?_
  show zA G (d + 5) mX11_goes 8 [some (.ref 0), some (.int x1), some (.int x2), some (.int x3)] [.int (zb (0 ≤ x1 ∧ x1 ≤ I b 2 - 1))] (zh b I L) R
  refine zi_if_eq (tgt := 31) dX11_goes_8 (by decide) (fun c1 => ?_) (fun c1 => ?_)
  · have K := K.1 (zb_0 c1)
    refine zi_aload_n dX11_goes_31 rfl rfl ?_
    refine zi_bipush (v := (-2)) dX11_goes_32 (by decide) ?_
    obtain ⟨r2, I3, h4, K⟩ := K
    refine zi_callV (N := mX11_refuseBad) (av := [.int (-2)]) (st := []) (R1 := (some (.int r2), zh b I3 L)) dX11_goes_34 okX11_refuseBad u_297 u_299 s_0 zc11 (rfl) (Nat.le_of_ble_eq_true rfl) arX11_refuseBad rfl (Nat.le_of_ble_eq_true rfl) (h4) hR ?_
    show zA G (d + 5) mX11_goes 37 [some (.ref 0), some (.int x1), some (.int x2), some (.int x3)] [.int r2] (zh b I3 L) R
    subst K
    exact zi_ireturn dX11_goes_37 rfl rfl
  · have K := K.2 (zb_1 c1)
    refine zi_aload_n dX11_goes_11 rfl rfl ?_
    refine zg_getF (k := 0) (v := .ref b) dX11_goes_12 zc11 rfl (Nat.le_of_ble_eq_true rfl) (Nat.le_of_ble_eq_true rfl) u_244 rfl (rfl) ?_
    refine zi_iload_n dX11_goes_15 rfl rfl ?_
    refine zi_callV (N := mX4_hasRow) (av := [.int x2]) (st := []) (R1 := (some (.int (zb (0 ≤ x2 ∧ x2 ≤ I b 0 - 1))), zh b I L)) dX11_goes_16 okX4_hasRow u_344 u_310 u_311 zc4 (hb.hl.sh) hb.hl.l0 arX4_hasRow rfl (Nat.le_of_ble_eq_true rfl) (kX4_hasRow hb.hl _) hR ?_
    show zA G (d + 5) mX11_goes 19 [some (.ref 0), some (.int x1), some (.int x2), some (.int x3)] [.int (zb (0 ≤ x2 ∧ x2 ≤ I b 0 - 1))] (zh b I L) R
    refine zi_if_eq (tgt := 31) dX11_goes_19 (by decide) (fun c5 => ?_) (fun c5 => ?_)
    · have K := K.1 (zb_0 c5)
      refine zi_aload_n dX11_goes_31 rfl rfl ?_
      refine zi_bipush (v := (-2)) dX11_goes_32 (by decide) ?_
      obtain ⟨r6, I7, h8, K⟩ := K
      refine zi_callV (N := mX11_refuseBad) (av := [.int (-2)]) (st := []) (R1 := (some (.int r6), zh b I7 L)) dX11_goes_34 okX11_refuseBad u_297 u_299 s_0 zc11 (rfl) (Nat.le_of_ble_eq_true rfl) arX11_refuseBad rfl (Nat.le_of_ble_eq_true rfl) (h8) hR ?_
      show zA G (d + 5) mX11_goes 37 [some (.ref 0), some (.int x1), some (.int x2), some (.int x3)] [.int r6] (zh b I7 L) R
      subst K
      exact zi_ireturn dX11_goes_37 rfl rfl
    · have K := K.2 (zb_1 c5)
      refine zi_iload_n dX11_goes_22 rfl rfl ?_
      refine zi_iconst (v := 0) dX11_goes_23 (by decide) ?_
      refine zi_iconst (v := 3) dX11_goes_24 (by decide) ?_
      refine zi_callS (N := mX11_within) (av := [.int x3, .int 0, .int 3]) (st := []) (R1 := (some (.int (zb (0 ≤ x3 ∧ x3 ≤ 3))), zh b I L)) dX11_goes_25 okX11_within u_294 u_295 arX11_within rfl (Nat.le_of_ble_eq_true rfl) (kX11_within _ _ _) hR ?_
      show zA G (d + 5) mX11_goes 28 [some (.ref 0), some (.int x1), some (.int x2), some (.int x3)] [.int (zb (0 ≤ x3 ∧ x3 ≤ 3))] (zh b I L) R
      refine zi_if_ne (tgt := 38) dX11_goes_28 (by decide) (fun c9 => ?_) (fun c9 => ?_)
      · have K := K.1 (zb_1 c9)
        refine zi_aload_n dX11_goes_38 rfl rfl ?_
        refine zg_getF (k := 5) (v := .ref 43) dX11_goes_39 zc11 rfl (Nat.le_of_ble_eq_true rfl) (Nat.le_of_ble_eq_true rfl) u_249 rfl (rfl) ?_
        refine zi_aload_n dX11_goes_42 rfl rfl ?_
        refine zg_getF (k := 0) (v := .ref b) dX11_goes_43 zc11 rfl (Nat.le_of_ble_eq_true rfl) (Nat.le_of_ble_eq_true rfl) u_244 rfl (rfl) ?_
        refine zi_aload_n dX11_goes_46 rfl rfl ?_
        refine zg_getF (k := 4) (v := .ref 37) dX11_goes_47 zc11 rfl (Nat.le_of_ble_eq_true rfl) (Nat.le_of_ble_eq_true rfl) u_248 rfl (rfl) ?_
        refine zi_iload_n dX11_goes_50 rfl rfl ?_
        refine zi_bipush (v := 8) dX11_goes_51 (by decide) ?_
        obtain ⟨I10, h11, K⟩ := K
        refine zi_callV (N := mX10_follow) (av := [.ref b, .ref 37, .int x1, .int 8]) (st := []) (R1 := (none, zh b I10 L)) dX11_goes_53 okX10_follow u_469 u_470 u_471 zc10 (rfl) (Nat.le_of_ble_eq_true rfl) arX10_follow rfl (Nat.le_of_ble_eq_true rfl) (h11) hR ?_
        show zA G (d + 5) mX11_goes 56 [some (.ref 0), some (.int x1), some (.int x2), some (.int x3)] [] (zh b I10 L) R
        refine zi_iload_n dX11_goes_56 rfl rfl ?_
        rcases zsw2 x3 0 2 (by decide) with c12 | ⟨k13, hk1, hk2, c12⟩
        · have K := K.1 c12
          refine zi_tableOut (tgt := 136) dX11_goes_57 c12 (by decide) ?_
          refine zi_aload_n dX11_goes_136 rfl rfl ?_
          refine zg_getF (k := 5) (v := .ref 43) dX11_goes_137 zc11 rfl (Nat.le_of_ble_eq_true rfl) (Nat.le_of_ble_eq_true rfl) u_249 rfl (rfl) ?_
          refine zg_getF (k := 3) (v := .ref 47) dX11_goes_140 zc10 rfl (Nat.le_of_ble_eq_true rfl) (Nat.le_of_ble_eq_true rfl) u_179 rfl (rfl) ?_
          refine zi_iload_n dX11_goes_143 rfl rfl ?_
          refine zi_iload_n dX11_goes_144 rfl rfl ?_
          refine zi_callS (N := mX11_onWay) (av := [.int x1, .int x2]) (st := [.ref 47]) (R1 := (some (.int ((x1 * 9) + x2)), zh b I10 L)) dX11_goes_145 okX11_onWay u_557 u_516 arX11_onWay rfl (Nat.le_of_ble_eq_true rfl) (kX11_onWay _ _) hR ?_
          show zA G (d + 5) mX11_goes 148 [some (.ref 0), some (.int x1), some (.int x2), some (.int x3)] [.int ((x1 * 9) + x2), .ref 47] (zh b I10 L) R
          have o14 := K.1
          have K := K.2
          refine zg_iaload dX11_goes_148 (rfl) (Nat.le_of_ble_eq_true rfl) o14 ?_
          subst K
          exact zi_ireturn dX11_goes_149 rfl rfl
        · have K := K.2
          have hk : k13 = 0 ∨ k13 = 1 ∨ k13 = 2 := by omega
          rcases hk with rfl | rfl | rfl
          · have K := K.1 c12
            refine zi_tableIn (off := 27) (tgt := 84) dX11_goes_57 (by rw [c12]; decide) (by rw [c12]; decide) (by rw [c12]; rfl) (by decide) ?_
            refine zi_aload_n dX11_goes_84 rfl rfl ?_
            refine zg_getF (k := 5) (v := .ref 43) dX11_goes_85 zc11 rfl (Nat.le_of_ble_eq_true rfl) (Nat.le_of_ble_eq_true rfl) u_249 rfl (rfl) ?_
            refine zg_getF (k := 0) (v := .ref 44) dX11_goes_88 zc10 rfl (Nat.le_of_ble_eq_true rfl) (Nat.le_of_ble_eq_true rfl) u_173 rfl (rfl) ?_
            refine zi_iload_n dX11_goes_91 rfl rfl ?_
            refine zi_iload_n dX11_goes_92 rfl rfl ?_
            refine zi_callS (N := mX11_onWay) (av := [.int x1, .int x2]) (st := [.ref 44]) (R1 := (some (.int ((x1 * 9) + x2)), zh b I10 L)) dX11_goes_93 okX11_onWay u_557 u_516 arX11_onWay rfl (Nat.le_of_ble_eq_true rfl) (kX11_onWay _ _) hR ?_
            show zA G (d + 5) mX11_goes 96 [some (.ref 0), some (.int x1), some (.int x2), some (.int x3)] [.int ((x1 * 9) + x2), .ref 44] (zh b I10 L) R
            have o15 := K.1
            have K := K.2
            refine zg_iaload dX11_goes_96 (rfl) (Nat.le_of_ble_eq_true rfl) o15 ?_
            subst K
            exact zi_ireturn dX11_goes_97 rfl rfl
          · have K := K.2.1 c12
            refine zi_tableIn (off := 41) (tgt := 98) dX11_goes_57 (by rw [c12]; decide) (by rw [c12]; decide) (by rw [c12]; rfl) (by decide) ?_
            refine zi_aload_n dX11_goes_98 rfl rfl ?_
            refine zg_getF (k := 5) (v := .ref 43) dX11_goes_99 zc11 rfl (Nat.le_of_ble_eq_true rfl) (Nat.le_of_ble_eq_true rfl) u_249 rfl (rfl) ?_
            refine zg_getF (k := 1) (v := .ref 45) dX11_goes_102 zc10 rfl (Nat.le_of_ble_eq_true rfl) (Nat.le_of_ble_eq_true rfl) u_175 rfl (rfl) ?_
            refine zi_iload_n dX11_goes_105 rfl rfl ?_
            refine zi_iload_n dX11_goes_106 rfl rfl ?_
            refine zi_callS (N := mX11_onWay) (av := [.int x1, .int x2]) (st := [.ref 45]) (R1 := (some (.int ((x1 * 9) + x2)), zh b I10 L)) dX11_goes_107 okX11_onWay u_557 u_516 arX11_onWay rfl (Nat.le_of_ble_eq_true rfl) (kX11_onWay _ _) hR ?_
            show zA G (d + 5) mX11_goes 110 [some (.ref 0), some (.int x1), some (.int x2), some (.int x3)] [.int ((x1 * 9) + x2), .ref 45] (zh b I10 L) R
            have o16 := K.1
            have K := K.2
            refine zg_iaload dX11_goes_110 (rfl) (Nat.le_of_ble_eq_true rfl) o16 ?_
            subst K
            exact zi_ireturn dX11_goes_111 rfl rfl
          · have K := K.2.2 c12
            refine zi_tableIn (off := 55) (tgt := 112) dX11_goes_57 (by rw [c12]; decide) (by rw [c12]; decide) (by rw [c12]; rfl) (by decide) ?_
            refine zi_aload_n dX11_goes_112 rfl rfl ?_
            refine zg_getF (k := 0) (v := .ref b) dX11_goes_113 zc11 rfl (Nat.le_of_ble_eq_true rfl) (Nat.le_of_ble_eq_true rfl) u_244 rfl (rfl) ?_
            refine zg_getF (k := 9) (v := .ref (b + 5)) dX11_goes_116 zc4 hb.hl.sh hb.hl.l0 (Nat.le_of_ble_eq_true rfl) u_72 rfl (hb.hl.f9) ?_
            refine zi_iload_n dX11_goes_119 rfl rfl ?_
            have o17 := K.1
            have K := K.2
            refine zg_iaload dX11_goes_120 (hb.hl.s5) (hb.hl.lt 5 (Nat.le_of_ble_eq_true rfl)) o17 ?_
            refine zi_aload_n dX11_goes_121 rfl rfl ?_
            refine zg_getF (k := 5) (v := .ref 43) dX11_goes_122 zc11 rfl (Nat.le_of_ble_eq_true rfl) (Nat.le_of_ble_eq_true rfl) u_249 rfl (rfl) ?_
            refine zg_getF (k := 2) (v := .ref 46) dX11_goes_125 zc10 rfl (Nat.le_of_ble_eq_true rfl) (Nat.le_of_ble_eq_true rfl) u_177 rfl (rfl) ?_
            refine zi_iload_n dX11_goes_128 rfl rfl ?_
            refine zi_iload_n dX11_goes_129 rfl rfl ?_
            refine zi_callS (N := mX11_onWay) (av := [.int x1, .int x2]) (st := [.ref 46, .int (I10 (b + 5) (zx x1))]) (R1 := (some (.int ((x1 * 9) + x2)), zh b I10 L)) dX11_goes_130 okX11_onWay u_557 u_516 arX11_onWay rfl (Nat.le_of_ble_eq_true rfl) (kX11_onWay _ _) hR ?_
            show zA G (d + 5) mX11_goes 133 [some (.ref 0), some (.int x1), some (.int x2), some (.int x3)] [.int ((x1 * 9) + x2), .ref 46, .int (I10 (b + 5) (zx x1))] (zh b I10 L) R
            have o18 := K.1
            have K := K.2
            refine zg_iaload dX11_goes_133 (rfl) (Nat.le_of_ble_eq_true rfl) o18 ?_
            refine zi_iadd dX11_goes_134 ?_
            subst K
            exact zi_ireturn dX11_goes_135 rfl rfl
      · have K := K.2 (zb_0 c9)
        refine zi_aload_n dX11_goes_31 rfl rfl ?_
        refine zi_bipush (v := (-2)) dX11_goes_32 (by decide) ?_
        obtain ⟨r19, I20, h21, K⟩ := K
        refine zi_callV (N := mX11_refuseBad) (av := [.int (-2)]) (st := []) (R1 := (some (.int r19), zh b I20 L)) dX11_goes_34 okX11_refuseBad u_297 u_299 s_0 zc11 (rfl) (Nat.le_of_ble_eq_true rfl) arX11_refuseBad rfl (Nat.le_of_ble_eq_true rfl) (h21) hR ?_
        show zA G (d + 5) mX11_goes 37 [some (.ref 0), some (.int x1), some (.int x2), some (.int x3)] [.int r19] (zh b I20 L) R
        subst K
        exact zi_ireturn dX11_goes_37 rfl rfl
set_option maxRecDepth 100000 in
theorem tX11_down_0 {G : zG} {d b : Nat} {I : Nat → Nat → Int32} {L : Nat → Nat → Int64} {R : zR} {x1 : Int32} {x2 : Int32} (hb : zbl b) (hR : zR0 R)
    (K : ((¬ (0 ≤ x1 ∧ x1 ≤ I b 2 - 1) → (∃ (r2 : Int32) (I3 : Nat → Nat → Int32), zCall (d + 4) mX11_refuseBad [.ref 0, .int (-2)] (zh b I L) (some (.int r2), zh b I3 L) ∧ R = (some (.int r2), zh b I3 L))) ∧ ((0 ≤ x1 ∧ x1 ≤ I b 2 - 1) → (((0 ≤ x2 ∧ x2 ≤ 2) → (∃ (I6 : Nat → Nat → Int32), zCall (d + 4) mX10_follow [.ref 43, .ref b, .ref 37, .int x1, .int 8] (zh b I L) (none, zh b I6 L) ∧ ((x2 = 0 → (∃ (r9 : Int32), zCall (d + 4) mX11_downAt [.ref 0, .int x1] (zh b I6 L) (some (.int r9), zh b I6 L) ∧ R = (some (.int r9), zh b I6 L))) ∧ (¬ x2 = 0 → ((x2 = 1 → (∃ (r12 : Int32), zCall (d + 4) mX10_harmInAll [.ref 43, .int x1, .int (I6 b 0)] (zh b I6 L) (some (.int r12), zh b I6 L) ∧ R = (some (.int r12), zh b I6 L))) ∧ (¬ x2 = 1 → (vp_in ((x1 * 9) + (I6 b 0)) 54 ∧ R = (some (.int (I6 44 (zx ((x1 * 9) + (I6 b 0))))), zh b I6 L)))))))) ∧ (¬ (0 ≤ x2 ∧ x2 ≤ 2) → (∃ (r15 : Int32) (I16 : Nat → Nat → Int32), zCall (d + 4) mX11_refuseBad [.ref 0, .int (-2)] (zh b I L) (some (.int r15), zh b I16 L) ∧ R = (some (.int r15), zh b I16 L))))))) :
    zA G (d + 5) mX11_down 0 [some (.ref 0), some (.int x1), some (.int x2)] [] (zh b I L) R := by
  refine zi_aload_n dX11_down_0 rfl rfl ?_
  refine zg_getF (k := 0) (v := .ref b) dX11_down_1 zc11 rfl (Nat.le_of_ble_eq_true rfl) (Nat.le_of_ble_eq_true rfl) u_244 rfl (rfl) ?_
  refine zi_iload_n dX11_down_4 rfl rfl ?_
  refine zi_callV (N := mX4_hasRunner) (av := [.int x1]) (st := []) (R1 := (some (.int (zb (0 ≤ x1 ∧ x1 ≤ I b 2 - 1))), zh b I L)) dX11_down_5 okX4_hasRunner u_340 u_341 u_342 zc4 (hb.hl.sh) hb.hl.l0 arX4_hasRunner rfl (Nat.le_of_ble_eq_true rfl) (kX4_hasRunner hb.hl _) hR ?_
  show zA G (d + 5) mX11_down 8 [some (.ref 0), some (.int x1), some (.int x2)] [.int (zb (0 ≤ x1 ∧ x1 ≤ I b 2 - 1))] (zh b I L) R
  refine zi_if_eq (tgt := 20) dX11_down_8 (by decide) (fun c1 => ?_) (fun c1 => ?_)
  · have K := K.1 (zb_0 c1)
    refine zi_aload_n dX11_down_20 rfl rfl ?_
    refine zi_bipush (v := (-2)) dX11_down_21 (by decide) ?_
    obtain ⟨r2, I3, h4, K⟩ := K
    refine zi_callV (N := mX11_refuseBad) (av := [.int (-2)]) (st := []) (R1 := (some (.int r2), zh b I3 L)) dX11_down_23 okX11_refuseBad u_297 u_299 s_0 zc11 (rfl) (Nat.le_of_ble_eq_true rfl) arX11_refuseBad rfl (Nat.le_of_ble_eq_true rfl) (h4) hR ?_
    show zA G (d + 5) mX11_down 26 [some (.ref 0), some (.int x1), some (.int x2)] [.int r2] (zh b I3 L) R
    subst K
    exact zi_ireturn dX11_down_26 rfl rfl
  · have K := K.2 (zb_1 c1)
    refine zi_iload_n dX11_down_11 rfl rfl ?_
    refine zi_iconst (v := 0) dX11_down_12 (by decide) ?_
    refine zi_iconst (v := 2) dX11_down_13 (by decide) ?_
    refine zi_callS (N := mX11_within) (av := [.int x2, .int 0, .int 2]) (st := []) (R1 := (some (.int (zb (0 ≤ x2 ∧ x2 ≤ 2))), zh b I L)) dX11_down_14 okX11_within u_294 u_295 arX11_within rfl (Nat.le_of_ble_eq_true rfl) (kX11_within _ _ _) hR ?_
    show zA G (d + 5) mX11_down 17 [some (.ref 0), some (.int x1), some (.int x2)] [.int (zb (0 ≤ x2 ∧ x2 ≤ 2))] (zh b I L) R
    refine zi_if_ne (tgt := 27) dX11_down_17 (by decide) (fun c5 => ?_) (fun c5 => ?_)
    · have K := K.1 (zb_1 c5)
      refine zi_aload_n dX11_down_27 rfl rfl ?_
      refine zg_getF (k := 5) (v := .ref 43) dX11_down_28 zc11 rfl (Nat.le_of_ble_eq_true rfl) (Nat.le_of_ble_eq_true rfl) u_249 rfl (rfl) ?_
      refine zi_aload_n dX11_down_31 rfl rfl ?_
      refine zg_getF (k := 0) (v := .ref b) dX11_down_32 zc11 rfl (Nat.le_of_ble_eq_true rfl) (Nat.le_of_ble_eq_true rfl) u_244 rfl (rfl) ?_
      refine zi_aload_n dX11_down_35 rfl rfl ?_
      refine zg_getF (k := 4) (v := .ref 37) dX11_down_36 zc11 rfl (Nat.le_of_ble_eq_true rfl) (Nat.le_of_ble_eq_true rfl) u_248 rfl (rfl) ?_
      refine zi_iload_n dX11_down_39 rfl rfl ?_
      refine zi_bipush (v := 8) dX11_down_40 (by decide) ?_
      obtain ⟨I6, h7, K⟩ := K
      refine zi_callV (N := mX10_follow) (av := [.ref b, .ref 37, .int x1, .int 8]) (st := []) (R1 := (none, zh b I6 L)) dX11_down_42 okX10_follow u_469 u_470 u_471 zc10 (rfl) (Nat.le_of_ble_eq_true rfl) arX10_follow rfl (Nat.le_of_ble_eq_true rfl) (h7) hR ?_
      show zA G (d + 5) mX11_down 45 [some (.ref 0), some (.int x1), some (.int x2)] [] (zh b I6 L) R
      refine zi_iload_n dX11_down_45 rfl rfl ?_
      by_cases c8 : x2 = 0
      · have K := K.1 c8
        refine zi_lookup (off := 26) (tgt := 72) dX11_down_46 (by decide) (by show Op.lookupswitch.offset [(0, 26), (1, 32)] 48 x2.toInt = _; rw [c8]; rfl) (by decide) ?_
        refine zi_aload_n dX11_down_72 rfl rfl ?_
        refine zi_iload_n dX11_down_73 rfl rfl ?_
        obtain ⟨r9, h10, K⟩ := K
        refine zi_callV (N := mX11_downAt) (av := [.int x1]) (st := []) (R1 := (some (.int r9), zh b I6 L)) dX11_down_74 okX11_downAt u_562 u_564 s_11 zc11 (rfl) (Nat.le_of_ble_eq_true rfl) arX11_downAt rfl (Nat.le_of_ble_eq_true rfl) (h10) hR ?_
        show zA G (d + 5) mX11_down 77 [some (.ref 0), some (.int x1), some (.int x2)] [.int r9] (zh b I6 L) R
        subst K
        exact zi_ireturn dX11_down_77 rfl rfl
      · have K := K.2 c8
        by_cases c11 : x2 = 1
        · have K := K.1 c11
          refine zi_lookup (off := 32) (tgt := 78) dX11_down_46 (by decide) (by show Op.lookupswitch.offset [(0, 26), (1, 32)] 48 x2.toInt = _; rw [lv_osw c8 (by decide)]; rw [c11]; rfl) (by decide) ?_
          refine zi_aload_n dX11_down_78 rfl rfl ?_
          refine zg_getF (k := 5) (v := .ref 43) dX11_down_79 zc11 rfl (Nat.le_of_ble_eq_true rfl) (Nat.le_of_ble_eq_true rfl) u_249 rfl (rfl) ?_
          refine zi_iload_n dX11_down_82 rfl rfl ?_
          refine zi_aload_n dX11_down_83 rfl rfl ?_
          refine zg_getF (k := 0) (v := .ref b) dX11_down_84 zc11 rfl (Nat.le_of_ble_eq_true rfl) (Nat.le_of_ble_eq_true rfl) u_244 rfl (rfl) ?_
          refine zg_getI (k := 0) dX11_down_87 zc4 hb.hl.sh hb.hl.l0 (Nat.le_of_ble_eq_true rfl) u_41 rfl ?_
          obtain ⟨r12, h13, K⟩ := K
          refine zi_callV (N := mX10_harmInAll) (av := [.int x1, .int (I6 b 0)]) (st := []) (R1 := (some (.int r12), zh b I6 L)) dX11_down_90 okX10_harmInAll u_566 u_567 u_568 zc10 (rfl) (Nat.le_of_ble_eq_true rfl) arX10_harmInAll rfl (Nat.le_of_ble_eq_true rfl) (h13) hR ?_
          show zA G (d + 5) mX11_down 93 [some (.ref 0), some (.int x1), some (.int x2)] [.int r12] (zh b I6 L) R
          subst K
          exact zi_ireturn dX11_down_93 rfl rfl
        · have K := K.2 c11
          refine zi_lookup (off := 48) (tgt := 94) dX11_down_46 (by decide) (by show Op.lookupswitch.offset [(0, 26), (1, 32)] 48 x2.toInt = _; rw [lv_osw c8 (by decide), lv_osw c11 (by decide)]; rfl) (by decide) ?_
          refine zi_aload_n dX11_down_94 rfl rfl ?_
          refine zg_getF (k := 5) (v := .ref 43) dX11_down_95 zc11 rfl (Nat.le_of_ble_eq_true rfl) (Nat.le_of_ble_eq_true rfl) u_249 rfl (rfl) ?_
          refine zg_getF (k := 0) (v := .ref 44) dX11_down_98 zc10 rfl (Nat.le_of_ble_eq_true rfl) (Nat.le_of_ble_eq_true rfl) u_173 rfl (rfl) ?_
          refine zi_iload_n dX11_down_101 rfl rfl ?_
          refine zi_aload_n dX11_down_102 rfl rfl ?_
          refine zg_getF (k := 0) (v := .ref b) dX11_down_103 zc11 rfl (Nat.le_of_ble_eq_true rfl) (Nat.le_of_ble_eq_true rfl) u_244 rfl (rfl) ?_
          refine zg_getI (k := 0) dX11_down_106 zc4 hb.hl.sh hb.hl.l0 (Nat.le_of_ble_eq_true rfl) u_41 rfl ?_
          refine zi_callS (N := mX11_onWay) (av := [.int x1, .int (I6 b 0)]) (st := [.ref 44]) (R1 := (some (.int ((x1 * 9) + (I6 b 0))), zh b I6 L)) dX11_down_109 okX11_onWay u_557 u_516 arX11_onWay rfl (Nat.le_of_ble_eq_true rfl) (kX11_onWay _ _) hR ?_
          show zA G (d + 5) mX11_down 112 [some (.ref 0), some (.int x1), some (.int x2)] [.int ((x1 * 9) + (I6 b 0)), .ref 44] (zh b I6 L) R
          have o14 := K.1
          have K := K.2
          refine zg_iaload dX11_down_112 (rfl) (Nat.le_of_ble_eq_true rfl) o14 ?_
          subst K
          exact zi_ireturn dX11_down_113 rfl rfl
    · have K := K.2 (zb_0 c5)
      refine zi_aload_n dX11_down_20 rfl rfl ?_
      refine zi_bipush (v := (-2)) dX11_down_21 (by decide) ?_
      obtain ⟨r15, I16, h17, K⟩ := K
      refine zi_callV (N := mX11_refuseBad) (av := [.int (-2)]) (st := []) (R1 := (some (.int r15), zh b I16 L)) dX11_down_23 okX11_refuseBad u_297 u_299 s_0 zc11 (rfl) (Nat.le_of_ble_eq_true rfl) arX11_refuseBad rfl (Nat.le_of_ble_eq_true rfl) (h17) hR ?_
      show zA G (d + 5) mX11_down 26 [some (.ref 0), some (.int x1), some (.int x2)] [.int r15] (zh b I16 L) R
      subst K
      exact zi_ireturn dX11_down_26 rfl rfl
set_option maxRecDepth 100000 in
theorem tX11_best_0 {G : zG} {d b : Nat} {I : Nat → Nat → Int32} {L : Nat → Nat → Int64} {R : zR} {x1 : Int32} {x2 : Int32} {x3 : Int32} (hb : zbl b) (hR : zR0 R)
    (K : ((¬ (0 ≤ x1 ∧ x1 ≤ I b 2 - 1) → (∃ (r2 : Int32) (I3 : Nat → Nat → Int32), zCall (d + 5) mX11_refuseBad [.ref 0, .int (-2)] (zh b I L) (some (.int r2), zh b I3 L) ∧ R = (some (.int r2), zh b I3 L))) ∧ ((0 ≤ x1 ∧ x1 ≤ I b 2 - 1) → ((¬ (0 ≤ x2 ∧ x2 ≤ 20) → (∃ (r6 : Int32) (I7 : Nat → Nat → Int32), zCall (d + 5) mX11_refuseBad [.ref 0, .int (-2)] (zh b I L) (some (.int r6), zh b I7 L) ∧ R = (some (.int r6), zh b I7 L))) ∧ ((0 ≤ x2 ∧ x2 ≤ 20) → ((x3 = (-1) → (vp_in x1 6 ∧ ((¬ x3 = (-1) → (vp_in x1 6 ∧ (∃ (r13 : Int32) (I14 : Nat → Nat → Int32), zCall (d + 5) mX3_stepIn [.ref 48, .ref b, .ref (38 + zkn (I (b + 3) (zx x1))), .int x2, .int (I (b + 4) (zx x1)), .int x3] (zh b I L) (some (.int r13), zh b I14 L) ∧ R = (some (.int r13), zh b I14 L)))) ∧ (x3 = (-1) → (vp_in x1 6 ∧ (∃ (r17 : Int32) (I18 : Nat → Nat → Int32), zCall (d + 5) mX3_least [.ref 48, .ref b, .ref (38 + zkn (I (b + 3) (zx x1))), .int x2, .int (I (b + 4) (zx x1))] (zh b I L) (some (.int r17), zh b I18 L) ∧ R = (some (.int r17), zh b I18 L))))))) ∧ (¬ x3 = (-1) → (((0 ≤ x3 ∧ x3 ≤ I b 0 - 1) → (vp_in x1 6 ∧ ((¬ x3 = (-1) → (vp_in x1 6 ∧ (∃ (r24 : Int32) (I25 : Nat → Nat → Int32), zCall (d + 5) mX3_stepIn [.ref 48, .ref b, .ref (38 + zkn (I (b + 3) (zx x1))), .int x2, .int (I (b + 4) (zx x1)), .int x3] (zh b I L) (some (.int r24), zh b I25 L) ∧ R = (some (.int r24), zh b I25 L)))) ∧ (x3 = (-1) → (vp_in x1 6 ∧ (∃ (r28 : Int32) (I29 : Nat → Nat → Int32), zCall (d + 5) mX3_least [.ref 48, .ref b, .ref (38 + zkn (I (b + 3) (zx x1))), .int x2, .int (I (b + 4) (zx x1))] (zh b I L) (some (.int r28), zh b I29 L) ∧ R = (some (.int r28), zh b I29 L))))))) ∧ (¬ (0 ≤ x3 ∧ x3 ≤ I b 0 - 1) → (∃ (r31 : Int32) (I32 : Nat → Nat → Int32), zCall (d + 5) mX11_refuseBad [.ref 0, .int (-2)] (zh b I L) (some (.int r31), zh b I32 L) ∧ R = (some (.int r31), zh b I32 L))))))))))) :
    zA G (d + 6) mX11_best 0 [some (.ref 0), some (.int x1), some (.int x2), some (.int x3), none] [] (zh b I L) R := by
  refine zi_aload_n dX11_best_0 rfl rfl ?_
  refine zg_getF (k := 0) (v := .ref b) dX11_best_1 zc11 rfl (Nat.le_of_ble_eq_true rfl) (Nat.le_of_ble_eq_true rfl) u_244 rfl (rfl) ?_
  refine zi_iload_n dX11_best_4 rfl rfl ?_
  refine zi_callV (N := mX4_hasRunner) (av := [.int x1]) (st := []) (R1 := (some (.int (zb (0 ≤ x1 ∧ x1 ≤ I b 2 - 1))), zh b I L)) dX11_best_5 okX4_hasRunner u_340 u_341 u_342 zc4 (hb.hl.sh) hb.hl.l0 arX4_hasRunner rfl (Nat.le_of_ble_eq_true rfl) (kX4_hasRunner hb.hl _) hR ?_
  show zA G (d + 6) mX11_best 8 [some (.ref 0), some (.int x1), some (.int x2), some (.int x3), none] [.int (zb (0 ≤ x1 ∧ x1 ≤ I b 2 - 1))] (zh b I L) R
  refine zi_if_eq (tgt := 37) dX11_best_8 (by decide) (fun c1 => ?_) (fun c1 => ?_)
  · have K := K.1 (zb_0 c1)
    refine zi_aload_n dX11_best_37 rfl rfl ?_
    refine zi_bipush (v := (-2)) dX11_best_38 (by decide) ?_
    obtain ⟨r2, I3, h4, K⟩ := K
    refine zi_callV (N := mX11_refuseBad) (av := [.int (-2)]) (st := []) (R1 := (some (.int r2), zh b I3 L)) dX11_best_40 okX11_refuseBad u_297 u_299 s_0 zc11 (rfl) (Nat.le_of_ble_eq_true rfl) arX11_refuseBad rfl (Nat.le_of_ble_eq_true rfl) (h4) hR ?_
    show zA G (d + 6) mX11_best 43 [some (.ref 0), some (.int x1), some (.int x2), some (.int x3), none] [.int r2] (zh b I3 L) R
    subst K
    exact zi_ireturn dX11_best_43 rfl rfl
  · have K := K.2 (zb_1 c1)
    refine zi_iload_n dX11_best_11 rfl rfl ?_
    refine zi_iconst (v := 0) dX11_best_12 (by decide) ?_
    refine zi_bipush (v := 20) dX11_best_13 (by decide) ?_
    refine zi_callS (N := mX11_within) (av := [.int x2, .int 0, .int 20]) (st := []) (R1 := (some (.int (zb (0 ≤ x2 ∧ x2 ≤ 20))), zh b I L)) dX11_best_15 okX11_within u_294 u_295 arX11_within rfl (Nat.le_of_ble_eq_true rfl) (kX11_within _ _ _) hR ?_
    show zA G (d + 6) mX11_best 18 [some (.ref 0), some (.int x1), some (.int x2), some (.int x3), none] [.int (zb (0 ≤ x2 ∧ x2 ≤ 20))] (zh b I L) R
    refine zi_if_eq (tgt := 37) dX11_best_18 (by decide) (fun c5 => ?_) (fun c5 => ?_)
    · have K := K.1 (zb_0 c5)
      refine zi_aload_n dX11_best_37 rfl rfl ?_
      refine zi_bipush (v := (-2)) dX11_best_38 (by decide) ?_
      obtain ⟨r6, I7, h8, K⟩ := K
      refine zi_callV (N := mX11_refuseBad) (av := [.int (-2)]) (st := []) (R1 := (some (.int r6), zh b I7 L)) dX11_best_40 okX11_refuseBad u_297 u_299 s_0 zc11 (rfl) (Nat.le_of_ble_eq_true rfl) arX11_refuseBad rfl (Nat.le_of_ble_eq_true rfl) (h8) hR ?_
      show zA G (d + 6) mX11_best 43 [some (.ref 0), some (.int x1), some (.int x2), some (.int x3), none] [.int r6] (zh b I7 L) R
      subst K
      exact zi_ireturn dX11_best_43 rfl rfl
    · have K := K.2 (zb_1 c5)
      refine zi_iload_n dX11_best_21 rfl rfl ?_
      refine zi_iconst (v := (-1)) dX11_best_22 (by decide) ?_
      refine zi_icmp_eq (tgt := 44) dX11_best_23 (by decide) (fun c9 => ?_) (fun c9 => ?_)
      · have K := K.1 c9
        refine zi_aload_n dX11_best_44 rfl rfl ?_
        refine zg_getF (k := 4) (v := .ref 37) dX11_best_45 zc11 rfl (Nat.le_of_ble_eq_true rfl) (Nat.le_of_ble_eq_true rfl) u_248 rfl (rfl) ?_
        refine zi_aload_n dX11_best_48 rfl rfl ?_
        refine zg_getF (k := 0) (v := .ref b) dX11_best_49 zc11 rfl (Nat.le_of_ble_eq_true rfl) (Nat.le_of_ble_eq_true rfl) u_244 rfl (rfl) ?_
        refine zg_getF (k := 7) (v := .ref (b + 3)) dX11_best_52 zc4 hb.hl.sh hb.hl.l0 (Nat.le_of_ble_eq_true rfl) u_67 rfl (hb.hl.f7) ?_
        refine zi_iload_n dX11_best_55 rfl rfl ?_
        have o10 := K.1
        have K := K.2
        refine zg_iaload dX11_best_56 (hb.hl.s3) (hb.hl.lt 3 (Nat.le_of_ble_eq_true rfl)) o10 ?_
        refine zi_callV (N := mX5_numbered) (av := [.int (I (b + 3) (zx x1))]) (st := []) (R1 := (some (.ref (38 + zkn (I (b + 3) (zx x1)))), zh b I L)) dX11_best_57 okX5_numbered u_574 u_474 u_475 zc5 (rfl) (Nat.le_of_ble_eq_true rfl) arX5_numbered rfl (Nat.le_of_ble_eq_true rfl) (kX5_numbered _) hR ?_
        show zA G (d + 6) mX11_best 60 [some (.ref 0), some (.int x1), some (.int x2), some (.int x3), none] [.ref (38 + zkn (I (b + 3) (zx x1)))] (zh b I L) R
        refine zi_astore (ls' := [some (.ref 0), some (.int x1), some (.int x2), some (.int x3), some (.ref (38 + zkn (I (b + 3) (zx x1))))]) dX11_best_60 (by decide) rfl ?_
        refine zi_iload_n dX11_best_62 rfl rfl ?_
        refine zi_iconst (v := (-1)) dX11_best_63 (by decide) ?_
        refine zi_icmp_ne (tgt := 91) dX11_best_64 (by decide) (fun c11 => ?_) (fun c11 => ?_)
        · have K := K.1 c11
          refine zi_aload_n dX11_best_91 rfl rfl ?_
          refine zg_getF (k := 6) (v := .ref 48) dX11_best_92 zc11 rfl (Nat.le_of_ble_eq_true rfl) (Nat.le_of_ble_eq_true rfl) u_250 rfl (rfl) ?_
          refine zi_aload_n dX11_best_95 rfl rfl ?_
          refine zg_getF (k := 0) (v := .ref b) dX11_best_96 zc11 rfl (Nat.le_of_ble_eq_true rfl) (Nat.le_of_ble_eq_true rfl) u_244 rfl (rfl) ?_
          refine zi_aload dX11_best_99 rfl ?_
          refine zi_iload_n dX11_best_101 rfl rfl ?_
          refine zi_aload_n dX11_best_102 rfl rfl ?_
          refine zg_getF (k := 0) (v := .ref b) dX11_best_103 zc11 rfl (Nat.le_of_ble_eq_true rfl) (Nat.le_of_ble_eq_true rfl) u_244 rfl (rfl) ?_
          refine zg_getF (k := 8) (v := .ref (b + 4)) dX11_best_106 zc4 hb.hl.sh hb.hl.l0 (Nat.le_of_ble_eq_true rfl) u_70 rfl (hb.hl.f8) ?_
          refine zi_iload_n dX11_best_109 rfl rfl ?_
          have o12 := K.1
          have K := K.2
          refine zg_iaload dX11_best_110 (hb.hl.s4) (hb.hl.lt 4 (Nat.le_of_ble_eq_true rfl)) o12 ?_
          refine zi_iload_n dX11_best_111 rfl rfl ?_
          obtain ⟨r13, I14, h15, K⟩ := K
          refine zi_callV (N := mX3_stepIn) (av := [.ref b, .ref (38 + zkn (I (b + 3) (zx x1))), .int x2, .int (I (b + 4) (zx x1)), .int x3]) (st := []) (R1 := (some (.int r13), zh b I14 L)) dX11_best_112 okX3_stepIn u_593 u_594 u_595 zc3 (rfl) (Nat.le_of_ble_eq_true rfl) arX3_stepIn rfl (Nat.le_of_ble_eq_true rfl) (h15) hR ?_
          show zA G (d + 6) mX11_best 115 [some (.ref 0), some (.int x1), some (.int x2), some (.int x3), some (.ref (38 + zkn (I (b + 3) (zx x1))))] [.int r13] (zh b I14 L) R
          subst K
          exact zi_ireturn dX11_best_115 rfl rfl
        · have K := K.2 c11
          refine zi_aload_n dX11_best_67 rfl rfl ?_
          refine zg_getF (k := 6) (v := .ref 48) dX11_best_68 zc11 rfl (Nat.le_of_ble_eq_true rfl) (Nat.le_of_ble_eq_true rfl) u_250 rfl (rfl) ?_
          refine zi_aload_n dX11_best_71 rfl rfl ?_
          refine zg_getF (k := 0) (v := .ref b) dX11_best_72 zc11 rfl (Nat.le_of_ble_eq_true rfl) (Nat.le_of_ble_eq_true rfl) u_244 rfl (rfl) ?_
          refine zi_aload dX11_best_75 rfl ?_
          refine zi_iload_n dX11_best_77 rfl rfl ?_
          refine zi_aload_n dX11_best_78 rfl rfl ?_
          refine zg_getF (k := 0) (v := .ref b) dX11_best_79 zc11 rfl (Nat.le_of_ble_eq_true rfl) (Nat.le_of_ble_eq_true rfl) u_244 rfl (rfl) ?_
          refine zg_getF (k := 8) (v := .ref (b + 4)) dX11_best_82 zc4 hb.hl.sh hb.hl.l0 (Nat.le_of_ble_eq_true rfl) u_70 rfl (hb.hl.f8) ?_
          refine zi_iload_n dX11_best_85 rfl rfl ?_
          have o16 := K.1
          have K := K.2
          refine zg_iaload dX11_best_86 (hb.hl.s4) (hb.hl.lt 4 (Nat.le_of_ble_eq_true rfl)) o16 ?_
          obtain ⟨r17, I18, h19, K⟩ := K
          refine zi_callV (N := mX3_least) (av := [.ref b, .ref (38 + zkn (I (b + 3) (zx x1))), .int x2, .int (I (b + 4) (zx x1))]) (st := []) (R1 := (some (.int r17), zh b I18 L)) dX11_best_87 okX3_least u_575 u_576 u_577 zc3 (rfl) (Nat.le_of_ble_eq_true rfl) arX3_least rfl (Nat.le_of_ble_eq_true rfl) (h19) hR ?_
          show zA G (d + 6) mX11_best 90 [some (.ref 0), some (.int x1), some (.int x2), some (.int x3), some (.ref (38 + zkn (I (b + 3) (zx x1))))] [.int r17] (zh b I18 L) R
          subst K
          exact zi_ireturn dX11_best_90 rfl rfl
      · have K := K.2 c9
        refine zi_aload_n dX11_best_26 rfl rfl ?_
        refine zg_getF (k := 0) (v := .ref b) dX11_best_27 zc11 rfl (Nat.le_of_ble_eq_true rfl) (Nat.le_of_ble_eq_true rfl) u_244 rfl (rfl) ?_
        refine zi_iload_n dX11_best_30 rfl rfl ?_
        refine zi_callV (N := mX4_hasRow) (av := [.int x3]) (st := []) (R1 := (some (.int (zb (0 ≤ x3 ∧ x3 ≤ I b 0 - 1))), zh b I L)) dX11_best_31 okX4_hasRow u_344 u_310 u_311 zc4 (hb.hl.sh) hb.hl.l0 arX4_hasRow rfl (Nat.le_of_ble_eq_true rfl) (kX4_hasRow hb.hl _) hR ?_
        show zA G (d + 6) mX11_best 34 [some (.ref 0), some (.int x1), some (.int x2), some (.int x3), none] [.int (zb (0 ≤ x3 ∧ x3 ≤ I b 0 - 1))] (zh b I L) R
        refine zi_if_ne (tgt := 44) dX11_best_34 (by decide) (fun c20 => ?_) (fun c20 => ?_)
        · have K := K.1 (zb_1 c20)
          refine zi_aload_n dX11_best_44 rfl rfl ?_
          refine zg_getF (k := 4) (v := .ref 37) dX11_best_45 zc11 rfl (Nat.le_of_ble_eq_true rfl) (Nat.le_of_ble_eq_true rfl) u_248 rfl (rfl) ?_
          refine zi_aload_n dX11_best_48 rfl rfl ?_
          refine zg_getF (k := 0) (v := .ref b) dX11_best_49 zc11 rfl (Nat.le_of_ble_eq_true rfl) (Nat.le_of_ble_eq_true rfl) u_244 rfl (rfl) ?_
          refine zg_getF (k := 7) (v := .ref (b + 3)) dX11_best_52 zc4 hb.hl.sh hb.hl.l0 (Nat.le_of_ble_eq_true rfl) u_67 rfl (hb.hl.f7) ?_
          refine zi_iload_n dX11_best_55 rfl rfl ?_
          have o21 := K.1
          have K := K.2
          refine zg_iaload dX11_best_56 (hb.hl.s3) (hb.hl.lt 3 (Nat.le_of_ble_eq_true rfl)) o21 ?_
          refine zi_callV (N := mX5_numbered) (av := [.int (I (b + 3) (zx x1))]) (st := []) (R1 := (some (.ref (38 + zkn (I (b + 3) (zx x1)))), zh b I L)) dX11_best_57 okX5_numbered u_574 u_474 u_475 zc5 (rfl) (Nat.le_of_ble_eq_true rfl) arX5_numbered rfl (Nat.le_of_ble_eq_true rfl) (kX5_numbered _) hR ?_
          show zA G (d + 6) mX11_best 60 [some (.ref 0), some (.int x1), some (.int x2), some (.int x3), none] [.ref (38 + zkn (I (b + 3) (zx x1)))] (zh b I L) R
          refine zi_astore (ls' := [some (.ref 0), some (.int x1), some (.int x2), some (.int x3), some (.ref (38 + zkn (I (b + 3) (zx x1))))]) dX11_best_60 (by decide) rfl ?_
          refine zi_iload_n dX11_best_62 rfl rfl ?_
          refine zi_iconst (v := (-1)) dX11_best_63 (by decide) ?_
          refine zi_icmp_ne (tgt := 91) dX11_best_64 (by decide) (fun c22 => ?_) (fun c22 => ?_)
          · have K := K.1 c22
            refine zi_aload_n dX11_best_91 rfl rfl ?_
            refine zg_getF (k := 6) (v := .ref 48) dX11_best_92 zc11 rfl (Nat.le_of_ble_eq_true rfl) (Nat.le_of_ble_eq_true rfl) u_250 rfl (rfl) ?_
            refine zi_aload_n dX11_best_95 rfl rfl ?_
            refine zg_getF (k := 0) (v := .ref b) dX11_best_96 zc11 rfl (Nat.le_of_ble_eq_true rfl) (Nat.le_of_ble_eq_true rfl) u_244 rfl (rfl) ?_
            refine zi_aload dX11_best_99 rfl ?_
            refine zi_iload_n dX11_best_101 rfl rfl ?_
            refine zi_aload_n dX11_best_102 rfl rfl ?_
            refine zg_getF (k := 0) (v := .ref b) dX11_best_103 zc11 rfl (Nat.le_of_ble_eq_true rfl) (Nat.le_of_ble_eq_true rfl) u_244 rfl (rfl) ?_
            refine zg_getF (k := 8) (v := .ref (b + 4)) dX11_best_106 zc4 hb.hl.sh hb.hl.l0 (Nat.le_of_ble_eq_true rfl) u_70 rfl (hb.hl.f8) ?_
            refine zi_iload_n dX11_best_109 rfl rfl ?_
            have o23 := K.1
            have K := K.2
            refine zg_iaload dX11_best_110 (hb.hl.s4) (hb.hl.lt 4 (Nat.le_of_ble_eq_true rfl)) o23 ?_
            refine zi_iload_n dX11_best_111 rfl rfl ?_
            obtain ⟨r24, I25, h26, K⟩ := K
            refine zi_callV (N := mX3_stepIn) (av := [.ref b, .ref (38 + zkn (I (b + 3) (zx x1))), .int x2, .int (I (b + 4) (zx x1)), .int x3]) (st := []) (R1 := (some (.int r24), zh b I25 L)) dX11_best_112 okX3_stepIn u_593 u_594 u_595 zc3 (rfl) (Nat.le_of_ble_eq_true rfl) arX3_stepIn rfl (Nat.le_of_ble_eq_true rfl) (h26) hR ?_
            show zA G (d + 6) mX11_best 115 [some (.ref 0), some (.int x1), some (.int x2), some (.int x3), some (.ref (38 + zkn (I (b + 3) (zx x1))))] [.int r24] (zh b I25 L) R
            subst K
            exact zi_ireturn dX11_best_115 rfl rfl
          · have K := K.2 c22
            refine zi_aload_n dX11_best_67 rfl rfl ?_
            refine zg_getF (k := 6) (v := .ref 48) dX11_best_68 zc11 rfl (Nat.le_of_ble_eq_true rfl) (Nat.le_of_ble_eq_true rfl) u_250 rfl (rfl) ?_
            refine zi_aload_n dX11_best_71 rfl rfl ?_
            refine zg_getF (k := 0) (v := .ref b) dX11_best_72 zc11 rfl (Nat.le_of_ble_eq_true rfl) (Nat.le_of_ble_eq_true rfl) u_244 rfl (rfl) ?_
            refine zi_aload dX11_best_75 rfl ?_
            refine zi_iload_n dX11_best_77 rfl rfl ?_
            refine zi_aload_n dX11_best_78 rfl rfl ?_
            refine zg_getF (k := 0) (v := .ref b) dX11_best_79 zc11 rfl (Nat.le_of_ble_eq_true rfl) (Nat.le_of_ble_eq_true rfl) u_244 rfl (rfl) ?_
            refine zg_getF (k := 8) (v := .ref (b + 4)) dX11_best_82 zc4 hb.hl.sh hb.hl.l0 (Nat.le_of_ble_eq_true rfl) u_70 rfl (hb.hl.f8) ?_
            refine zi_iload_n dX11_best_85 rfl rfl ?_
            have o27 := K.1
            have K := K.2
            refine zg_iaload dX11_best_86 (hb.hl.s4) (hb.hl.lt 4 (Nat.le_of_ble_eq_true rfl)) o27 ?_
            obtain ⟨r28, I29, h30, K⟩ := K
            refine zi_callV (N := mX3_least) (av := [.ref b, .ref (38 + zkn (I (b + 3) (zx x1))), .int x2, .int (I (b + 4) (zx x1))]) (st := []) (R1 := (some (.int r28), zh b I29 L)) dX11_best_87 okX3_least u_575 u_576 u_577 zc3 (rfl) (Nat.le_of_ble_eq_true rfl) arX3_least rfl (Nat.le_of_ble_eq_true rfl) (h30) hR ?_
            show zA G (d + 6) mX11_best 90 [some (.ref 0), some (.int x1), some (.int x2), some (.int x3), some (.ref (38 + zkn (I (b + 3) (zx x1))))] [.int r28] (zh b I29 L) R
            subst K
            exact zi_ireturn dX11_best_90 rfl rfl
        · have K := K.2 (zb_0 c20)
          refine zi_aload_n dX11_best_37 rfl rfl ?_
          refine zi_bipush (v := (-2)) dX11_best_38 (by decide) ?_
          obtain ⟨r31, I32, h33, K⟩ := K
          refine zi_callV (N := mX11_refuseBad) (av := [.int (-2)]) (st := []) (R1 := (some (.int r31), zh b I32 L)) dX11_best_40 okX11_refuseBad u_297 u_299 s_0 zc11 (rfl) (Nat.le_of_ble_eq_true rfl) arX11_refuseBad rfl (Nat.le_of_ble_eq_true rfl) (h33) hR ?_
          show zA G (d + 6) mX11_best 43 [some (.ref 0), some (.int x1), some (.int x2), some (.int x3), none] [.int r31] (zh b I32 L) R
          subst K
          exact zi_ireturn dX11_best_43 rfl rfl
set_option maxRecDepth 100000 in
theorem tX11_fall_0 {G : zG} {d b : Nat} {I : Nat → Nat → Int32} {L : Nat → Nat → Int64} {R : zR} {x1 : Int32} {x2 : Int32} (hb : zbl b) (hR : zR0 R)
    (K : ((¬ (0 ≤ x1 ∧ x1 ≤ I b 2 - 1) → (∃ (r2 : Int32) (I3 : Nat → Nat → Int32), zCall (d + 5) mX11_refuseBad [.ref 0, .int (-2)] (zh b I L) (some (.int r2), zh b I3 L) ∧ R = (some (.int r2), zh b I3 L))) ∧ ((0 ≤ x1 ∧ x1 ≤ I b 2 - 1) → (((0 ≤ x2 ∧ x2 ≤ 20) → (∃ (r6 : Int32) (I7 : Nat → Nat → Int32), zCall (d + 5) mX11_costOfFall [.ref 0, .int x1, .int x2, .int 8] (zh b I L) (some (.int r6), zh b I7 L) ∧ zA G (d + 6) mX11_fall 43 [some (.ref 0), some (.int x1), some (.int x2), some (.int r6), some (.int (-1)), some (.int 0), none] [] (zh b I7 L) R)) ∧ (¬ (0 ≤ x2 ∧ x2 ≤ 20) → (∃ (r9 : Int32) (I10 : Nat → Nat → Int32), zCall (d + 5) mX11_refuseBad [.ref 0, .int (-2)] (zh b I L) (some (.int r9), zh b I10 L) ∧ R = (some (.int r9), zh b I10 L))))))) :
    zA G (d + 6) mX11_fall 0 [some (.ref 0), some (.int x1), some (.int x2), none, none, none, none] [] (zh b I L) R := by
  refine zi_aload_n dX11_fall_0 rfl rfl ?_
  refine zg_getF (k := 0) (v := .ref b) dX11_fall_1 zc11 rfl (Nat.le_of_ble_eq_true rfl) (Nat.le_of_ble_eq_true rfl) u_244 rfl (rfl) ?_
  refine zi_iload_n dX11_fall_4 rfl rfl ?_
  refine zi_callV (N := mX4_hasRunner) (av := [.int x1]) (st := []) (R1 := (some (.int (zb (0 ≤ x1 ∧ x1 ≤ I b 2 - 1))), zh b I L)) dX11_fall_5 okX4_hasRunner u_340 u_341 u_342 zc4 (hb.hl.sh) hb.hl.l0 arX4_hasRunner rfl (Nat.le_of_ble_eq_true rfl) (kX4_hasRunner hb.hl _) hR ?_
  show zA G (d + 6) mX11_fall 8 [some (.ref 0), some (.int x1), some (.int x2), none, none, none, none] [.int (zb (0 ≤ x1 ∧ x1 ≤ I b 2 - 1))] (zh b I L) R
  refine zi_if_eq (tgt := 21) dX11_fall_8 (by decide) (fun c1 => ?_) (fun c1 => ?_)
  · have K := K.1 (zb_0 c1)
    refine zi_aload_n dX11_fall_21 rfl rfl ?_
    refine zi_bipush (v := (-2)) dX11_fall_22 (by decide) ?_
    obtain ⟨r2, I3, h4, K⟩ := K
    refine zi_callV (N := mX11_refuseBad) (av := [.int (-2)]) (st := []) (R1 := (some (.int r2), zh b I3 L)) dX11_fall_24 okX11_refuseBad u_297 u_299 s_0 zc11 (rfl) (Nat.le_of_ble_eq_true rfl) arX11_refuseBad rfl (Nat.le_of_ble_eq_true rfl) (h4) hR ?_
    show zA G (d + 6) mX11_fall 27 [some (.ref 0), some (.int x1), some (.int x2), none, none, none, none] [.int r2] (zh b I3 L) R
    subst K
    exact zi_ireturn dX11_fall_27 rfl rfl
  · have K := K.2 (zb_1 c1)
    refine zi_iload_n dX11_fall_11 rfl rfl ?_
    refine zi_iconst (v := 0) dX11_fall_12 (by decide) ?_
    refine zi_bipush (v := 20) dX11_fall_13 (by decide) ?_
    refine zi_callS (N := mX11_within) (av := [.int x2, .int 0, .int 20]) (st := []) (R1 := (some (.int (zb (0 ≤ x2 ∧ x2 ≤ 20))), zh b I L)) dX11_fall_15 okX11_within u_294 u_295 arX11_within rfl (Nat.le_of_ble_eq_true rfl) (kX11_within _ _ _) hR ?_
    show zA G (d + 6) mX11_fall 18 [some (.ref 0), some (.int x1), some (.int x2), none, none, none, none] [.int (zb (0 ≤ x2 ∧ x2 ≤ 20))] (zh b I L) R
    refine zi_if_ne (tgt := 28) dX11_fall_18 (by decide) (fun c5 => ?_) (fun c5 => ?_)
    · have K := K.1 (zb_1 c5)
      refine zi_aload_n dX11_fall_28 rfl rfl ?_
      refine zi_iload_n dX11_fall_29 rfl rfl ?_
      refine zi_iload_n dX11_fall_30 rfl rfl ?_
      refine zi_bipush (v := 8) dX11_fall_31 (by decide) ?_
      obtain ⟨r6, I7, h8, K⟩ := K
      refine zi_callV (N := mX11_costOfFall) (av := [.int x1, .int x2, .int 8]) (st := []) (R1 := (some (.int r6), zh b I7 L)) dX11_fall_33 okX11_costOfFall u_601 u_603 s_14 zc11 (rfl) (Nat.le_of_ble_eq_true rfl) arX11_costOfFall rfl (Nat.le_of_ble_eq_true rfl) (h8) hR ?_
      show zA G (d + 6) mX11_fall 36 [some (.ref 0), some (.int x1), some (.int x2), none, none, none, none] [.int r6] (zh b I7 L) R
      refine zi_istore_n (ls' := [some (.ref 0), some (.int x1), some (.int x2), some (.int r6), none, none, none]) dX11_fall_36 rfl (by decide) rfl ?_
      refine zi_iconst (v := (-1)) dX11_fall_37 (by decide) ?_
      refine zi_istore (ls' := [some (.ref 0), some (.int x1), some (.int x2), some (.int r6), some (.int (-1)), none, none]) dX11_fall_38 (by decide) rfl ?_
      refine zi_iconst (v := 0) dX11_fall_40 (by decide) ?_
      refine zi_istore (ls' := [some (.ref 0), some (.int x1), some (.int x2), some (.int r6), some (.int (-1)), some (.int 0), none]) dX11_fall_41 (by decide) rfl ?_
      exact K
    · have K := K.2 (zb_0 c5)
      refine zi_aload_n dX11_fall_21 rfl rfl ?_
      refine zi_bipush (v := (-2)) dX11_fall_22 (by decide) ?_
      obtain ⟨r9, I10, h11, K⟩ := K
      refine zi_callV (N := mX11_refuseBad) (av := [.int (-2)]) (st := []) (R1 := (some (.int r9), zh b I10 L)) dX11_fall_24 okX11_refuseBad u_297 u_299 s_0 zc11 (rfl) (Nat.le_of_ble_eq_true rfl) arX11_refuseBad rfl (Nat.le_of_ble_eq_true rfl) (h11) hR ?_
      show zA G (d + 6) mX11_fall 27 [some (.ref 0), some (.int x1), some (.int x2), none, none, none, none] [.int r9] (zh b I10 L) R
      subst K
      exact zi_ireturn dX11_fall_27 rfl rfl
set_option maxRecDepth 100000 in
theorem tX11_fall_43 {G : zG} {d b : Nat} {I : Nat → Nat → Int32} {L : Nat → Nat → Int64} {R : zR} {x1 : Int32} {x2 : Int32} {x3 : Int32} {x4 : Int32} {x5 : Int32} (hb : zbl b) (hR : zR0 R)
    (K : (((I b 0) ≤ x5 → R = (some (.int x4), zh b I L)) ∧ (¬ (I b 0) ≤ x5 → (∃ (r2 : Int32) (I3 : Nat → Nat → Int32), zCall (d + 5) mX11_costOfFall [.ref 0, .int x1, .int x2, .int x5] (zh b I L) (some (.int r2), zh b I3 L) ∧ ((x3 ≤ r2 → zA G (d + 6) mX11_fall 43 [some (.ref 0), some (.int x1), some (.int x2), some (.int x3), some (.int x4), some (.int (x5 + 1)), none] [] (zh b I3 L) R) ∧ (¬ x3 ≤ r2 → zA G (d + 6) mX11_fall 43 [some (.ref 0), some (.int x1), some (.int x2), some (.int r2), some (.int x5), some (.int (x5 + 1)), none] [] (zh b I3 L) R)))))) :
    zA G (d + 6) mX11_fall 43 [some (.ref 0), some (.int x1), some (.int x2), some (.int x3), some (.int x4), some (.int x5), none] [] (zh b I L) R := by
  refine zi_iload dX11_fall_43 rfl ?_
  refine zi_aload_n dX11_fall_45 rfl rfl ?_
  refine zg_getF (k := 0) (v := .ref b) dX11_fall_46 zc11 rfl (Nat.le_of_ble_eq_true rfl) (Nat.le_of_ble_eq_true rfl) u_244 rfl (rfl) ?_
  refine zg_getI (k := 0) dX11_fall_49 zc4 hb.hl.sh hb.hl.l0 (Nat.le_of_ble_eq_true rfl) u_41 rfl ?_
  refine zi_icmp_ge (tgt := 84) dX11_fall_52 (by decide) (fun c1 => ?_) (fun c1 => ?_)
  · have K := K.1 c1
    refine zi_iload dX11_fall_84 rfl ?_
    subst K
    exact zi_ireturn dX11_fall_86 rfl rfl
  · have K := K.2 c1
    refine zi_aload_n dX11_fall_55 rfl rfl ?_
    refine zi_iload_n dX11_fall_56 rfl rfl ?_
    refine zi_iload_n dX11_fall_57 rfl rfl ?_
    refine zi_iload dX11_fall_58 rfl ?_
    obtain ⟨r2, I3, h4, K⟩ := K
    refine zi_callV (N := mX11_costOfFall) (av := [.int x1, .int x2, .int x5]) (st := []) (R1 := (some (.int r2), zh b I3 L)) dX11_fall_60 okX11_costOfFall u_601 u_603 s_14 zc11 (rfl) (Nat.le_of_ble_eq_true rfl) arX11_costOfFall rfl (Nat.le_of_ble_eq_true rfl) (h4) hR ?_
    show zA G (d + 6) mX11_fall 63 [some (.ref 0), some (.int x1), some (.int x2), some (.int x3), some (.int x4), some (.int x5), none] [.int r2] (zh b I3 L) R
    refine zi_istore (ls' := [some (.ref 0), some (.int x1), some (.int x2), some (.int x3), some (.int x4), some (.int x5), some (.int r2)]) dX11_fall_63 (by decide) rfl ?_
    refine zi_iload dX11_fall_65 rfl ?_
    refine zi_iload_n dX11_fall_67 rfl rfl ?_
    refine zi_icmp_ge (tgt := 78) dX11_fall_68 (by decide) (fun c5 => ?_) (fun c5 => ?_)
    · have K := K.1 c5
      refine zi_iinc (v := x5 + 1) (ls' := [some (.ref 0), some (.int x1), some (.int x2), some (.int x3), some (.int x4), some (.int (x5 + 1)), some (.int r2)]) dX11_fall_78 rfl (by decide) rfl rfl ?_
      refine zi_goto (tgt := 43) dX11_fall_81 (by decide) ?_
      refine zi_mask [true, true, true, true, true, true, false] rfl ?_
      exact K
    · have K := K.2 c5
      refine zi_iload dX11_fall_71 rfl ?_
      refine zi_istore_n (ls' := [some (.ref 0), some (.int x1), some (.int x2), some (.int r2), some (.int x4), some (.int x5), some (.int r2)]) dX11_fall_73 rfl (by decide) rfl ?_
      refine zi_iload dX11_fall_74 rfl ?_
      refine zi_istore (ls' := [some (.ref 0), some (.int x1), some (.int x2), some (.int r2), some (.int x5), some (.int x5), some (.int r2)]) dX11_fall_76 (by decide) rfl ?_
      refine zi_iinc (v := x5 + 1) (ls' := [some (.ref 0), some (.int x1), some (.int x2), some (.int r2), some (.int x5), some (.int (x5 + 1)), some (.int r2)]) dX11_fall_78 rfl (by decide) rfl rfl ?_
      refine zi_goto (tgt := 43) dX11_fall_81 (by decide) ?_
      refine zi_mask [true, true, true, true, true, true, false] rfl ?_
      exact K
set_option maxRecDepth 100000 in
theorem tX11_place_0 {G : zG} {d b : Nat} {I : Nat → Nat → Int32} {L : Nat → Nat → Int64} {R : zR} {x1 : Int32} (hR : zR0 R)
    (K : ((0 ≤ x1 → (∃ (I2 : Nat → Nat → Int32), zCall (d + 5) mX10_followAll [.ref 43, .ref b, .ref 37] (zh b I L) (none, zh b I2 L) ∧ (∃ (r4 : Int32), zCall (d + 5) mX11_runnerInPlace [.ref 0, .int x1] (zh b I2 L) (some (.int r4), zh b I2 L) ∧ R = (some (.int r4), zh b I2 L)))) ∧ (¬ 0 ≤ x1 → (∃ (r6 : Int32) (I7 : Nat → Nat → Int32), zCall (d + 5) mX11_refuseBad [.ref 0, .int (-2)] (zh b I L) (some (.int r6), zh b I7 L) ∧ R = (some (.int r6), zh b I7 L))))) :
    zA G (d + 6) mX11_place 0 [some (.ref 0), some (.int x1)] [] (zh b I L) R := by
  refine zi_iload_n dX11_place_0 rfl rfl ?_
  refine zi_if_ge (tgt := 11) dX11_place_1 (by decide) (fun c1 => ?_) (fun c1 => ?_)
  · have K := K.1 c1
    refine zi_aload_n dX11_place_11 rfl rfl ?_
    refine zg_getF (k := 5) (v := .ref 43) dX11_place_12 zc11 rfl (Nat.le_of_ble_eq_true rfl) (Nat.le_of_ble_eq_true rfl) u_249 rfl (rfl) ?_
    refine zi_aload_n dX11_place_15 rfl rfl ?_
    refine zg_getF (k := 0) (v := .ref b) dX11_place_16 zc11 rfl (Nat.le_of_ble_eq_true rfl) (Nat.le_of_ble_eq_true rfl) u_244 rfl (rfl) ?_
    refine zi_aload_n dX11_place_19 rfl rfl ?_
    refine zg_getF (k := 4) (v := .ref 37) dX11_place_20 zc11 rfl (Nat.le_of_ble_eq_true rfl) (Nat.le_of_ble_eq_true rfl) u_248 rfl (rfl) ?_
    obtain ⟨I2, h3, K⟩ := K
    refine zi_callV (N := mX10_followAll) (av := [.ref b, .ref 37]) (st := []) (R1 := (none, zh b I2 L)) dX11_place_23 okX10_followAll u_609 u_610 u_611 zc10 (rfl) (Nat.le_of_ble_eq_true rfl) arX10_followAll rfl (Nat.le_of_ble_eq_true rfl) (h3) hR ?_
    show zA G (d + 6) mX11_place 26 [some (.ref 0), some (.int x1)] [] (zh b I2 L) R
    refine zi_aload_n dX11_place_26 rfl rfl ?_
    refine zi_iload_n dX11_place_27 rfl rfl ?_
    obtain ⟨r4, h5, K⟩ := K
    refine zi_callV (N := mX11_runnerInPlace) (av := [.int x1]) (st := []) (R1 := (some (.int r4), zh b I2 L)) dX11_place_28 okX11_runnerInPlace u_614 u_616 s_15 zc11 (rfl) (Nat.le_of_ble_eq_true rfl) arX11_runnerInPlace rfl (Nat.le_of_ble_eq_true rfl) (h5) hR ?_
    show zA G (d + 6) mX11_place 31 [some (.ref 0), some (.int x1)] [.int r4] (zh b I2 L) R
    subst K
    exact zi_ireturn dX11_place_31 rfl rfl
  · have K := K.2 c1
    refine zi_aload_n dX11_place_4 rfl rfl ?_
    refine zi_bipush (v := (-2)) dX11_place_5 (by decide) ?_
    obtain ⟨r6, I7, h8, K⟩ := K
    refine zi_callV (N := mX11_refuseBad) (av := [.int (-2)]) (st := []) (R1 := (some (.int r6), zh b I7 L)) dX11_place_7 okX11_refuseBad u_297 u_299 s_0 zc11 (rfl) (Nat.le_of_ble_eq_true rfl) arX11_refuseBad rfl (Nat.le_of_ble_eq_true rfl) (h8) hR ?_
    show zA G (d + 6) mX11_place 10 [some (.ref 0), some (.int x1)] [.int r6] (zh b I7 L) R
    subst K
    exact zi_ireturn dX11_place_10 rfl rfl
set_option maxRecDepth 100000 in
theorem tX11_clashes_0 {G : zG} {d b : Nat} {I : Nat → Nat → Int32} {L : Nat → Nat → Int64} {R : zR}  (hR : zR0 R)
    (K : (∃ (I1 : Nat → Nat → Int32), zCall (d + 5) mX10_followAll [.ref 43, .ref b, .ref 37] (zh b I L) (none, zh b I1 L) ∧ zA G (d + 6) mX11_clashes 19 [some (.ref 0), some (.int 0), some (.int 0), none] [] (zh b I1 L) R)) :
    zA G (d + 6) mX11_clashes 0 [some (.ref 0), none, none, none] [] (zh b I L) R := by
  refine zi_aload_n dX11_clashes_0 rfl rfl ?_
  refine zg_getF (k := 5) (v := .ref 43) dX11_clashes_1 zc11 rfl (Nat.le_of_ble_eq_true rfl) (Nat.le_of_ble_eq_true rfl) u_249 rfl (rfl) ?_
  refine zi_aload_n dX11_clashes_4 rfl rfl ?_
  refine zg_getF (k := 0) (v := .ref b) dX11_clashes_5 zc11 rfl (Nat.le_of_ble_eq_true rfl) (Nat.le_of_ble_eq_true rfl) u_244 rfl (rfl) ?_
  refine zi_aload_n dX11_clashes_8 rfl rfl ?_
  refine zg_getF (k := 4) (v := .ref 37) dX11_clashes_9 zc11 rfl (Nat.le_of_ble_eq_true rfl) (Nat.le_of_ble_eq_true rfl) u_248 rfl (rfl) ?_
  obtain ⟨I1, h2, K⟩ := K
  refine zi_callV (N := mX10_followAll) (av := [.ref b, .ref 37]) (st := []) (R1 := (none, zh b I1 L)) dX11_clashes_12 okX10_followAll u_609 u_610 u_611 zc10 (rfl) (Nat.le_of_ble_eq_true rfl) arX10_followAll rfl (Nat.le_of_ble_eq_true rfl) (h2) hR ?_
  show zA G (d + 6) mX11_clashes 15 [some (.ref 0), none, none, none] [] (zh b I1 L) R
  refine zi_iconst (v := 0) dX11_clashes_15 (by decide) ?_
  refine zi_istore_n (ls' := [some (.ref 0), some (.int 0), none, none]) dX11_clashes_16 rfl (by decide) rfl ?_
  refine zi_iconst (v := 0) dX11_clashes_17 (by decide) ?_
  refine zi_istore_n (ls' := [some (.ref 0), some (.int 0), some (.int 0), none]) dX11_clashes_18 rfl (by decide) rfl ?_
  exact K
set_option maxRecDepth 100000 in
theorem tX11_clashes_19 {G : zG} {d b : Nat} {I : Nat → Nat → Int32} {L : Nat → Nat → Int64} {R : zR} {x1 : Int32} {x2 : Int32} (hb : zbl b)
    (K : (((I b 2) ≤ x2 → R = (some (.int x1), zh b I L)) ∧ (¬ (I b 2) ≤ x2 → zA G (d + 6) mX11_clashes 34 [some (.ref 0), some (.int x1), some (.int x2), some (.int (x2 + 1))] [] (zh b I L) R))) :
    zA G (d + 6) mX11_clashes 19 [some (.ref 0), some (.int x1), some (.int x2), none] [] (zh b I L) R := by
  refine zi_iload_n dX11_clashes_19 rfl rfl ?_
  refine zi_aload_n dX11_clashes_20 rfl rfl ?_
  refine zg_getF (k := 0) (v := .ref b) dX11_clashes_21 zc11 rfl (Nat.le_of_ble_eq_true rfl) (Nat.le_of_ble_eq_true rfl) u_244 rfl (rfl) ?_
  refine zg_getI (k := 2) dX11_clashes_24 zc4 hb.hl.sh hb.hl.l0 (Nat.le_of_ble_eq_true rfl) u_48 rfl ?_
  refine zi_icmp_ge (tgt := 98) dX11_clashes_27 (by decide) (fun c1 => ?_) (fun c1 => ?_)
  · have K := K.1 c1
    refine zi_iload_n dX11_clashes_98 rfl rfl ?_
    subst K
    exact zi_ireturn dX11_clashes_99 rfl rfl
  · have K := K.2 c1
    refine zi_iload_n dX11_clashes_30 rfl rfl ?_
    refine zi_iconst (v := 1) dX11_clashes_31 (by decide) ?_
    refine zi_iadd dX11_clashes_32 ?_
    refine zi_istore_n (ls' := [some (.ref 0), some (.int x1), some (.int x2), some (.int (x2 + 1))]) dX11_clashes_33 rfl (by decide) rfl ?_
    exact K
set_option maxRecDepth 100000 in
theorem tX11_clashes_34 {G : zG} {d b : Nat} {I : Nat → Nat → Int32} {L : Nat → Nat → Int64} {R : zR} {x1 : Int32} {x2 : Int32} {x3 : Int32} (hb : zbl b) (hR : zR0 R)
    (K : (((I b 2) ≤ x3 → zA G (d + 6) mX11_clashes 19 [some (.ref 0), some (.int x1), some (.int (x2 + 1)), none] [] (zh b I L) R) ∧ (¬ (I b 2) ≤ x3 → (vp_in x3 6 ∧ (vp_in x2 6 ∧ (∃ (r4 : Bool), zCall (d + 5) mX10_meet [.ref 43, .int x2, .int x3, .int ((I (b + 5) (zx x3)) - (I (b + 5) (zx x2))), .int (I b 0)] (zh b I L) (some (.int (zB r4)), zh b I L) ∧ ((r4 = false → zA G (d + 6) mX11_clashes 34 [some (.ref 0), some (.int x1), some (.int x2), some (.int (x3 + 1))] [] (zh b I L) R) ∧ (r4 = true → zA G (d + 6) mX11_clashes 34 [some (.ref 0), some (.int (x1 + 1)), some (.int x2), some (.int (x3 + 1))] [] (zh b I L) R)))))))) :
    zA G (d + 6) mX11_clashes 34 [some (.ref 0), some (.int x1), some (.int x2), some (.int x3)] [] (zh b I L) R := by
  refine zi_iload_n dX11_clashes_34 rfl rfl ?_
  refine zi_aload_n dX11_clashes_35 rfl rfl ?_
  refine zg_getF (k := 0) (v := .ref b) dX11_clashes_36 zc11 rfl (Nat.le_of_ble_eq_true rfl) (Nat.le_of_ble_eq_true rfl) u_244 rfl (rfl) ?_
  refine zg_getI (k := 2) dX11_clashes_39 zc4 hb.hl.sh hb.hl.l0 (Nat.le_of_ble_eq_true rfl) u_48 rfl ?_
  refine zi_icmp_ge (tgt := 92) dX11_clashes_42 (by decide) (fun c1 => ?_) (fun c1 => ?_)
  · have K := K.1 c1
    refine zi_iinc (v := x2 + 1) (ls' := [some (.ref 0), some (.int x1), some (.int (x2 + 1)), some (.int x3)]) dX11_clashes_92 rfl (by decide) rfl rfl ?_
    refine zi_goto (tgt := 19) dX11_clashes_95 (by decide) ?_
    refine zi_mask [true, true, true, false] rfl ?_
    exact K
  · have K := K.2 c1
    refine zi_aload_n dX11_clashes_45 rfl rfl ?_
    refine zg_getF (k := 5) (v := .ref 43) dX11_clashes_46 zc11 rfl (Nat.le_of_ble_eq_true rfl) (Nat.le_of_ble_eq_true rfl) u_249 rfl (rfl) ?_
    refine zi_iload_n dX11_clashes_49 rfl rfl ?_
    refine zi_iload_n dX11_clashes_50 rfl rfl ?_
    refine zi_aload_n dX11_clashes_51 rfl rfl ?_
    refine zg_getF (k := 0) (v := .ref b) dX11_clashes_52 zc11 rfl (Nat.le_of_ble_eq_true rfl) (Nat.le_of_ble_eq_true rfl) u_244 rfl (rfl) ?_
    refine zg_getF (k := 9) (v := .ref (b + 5)) dX11_clashes_55 zc4 hb.hl.sh hb.hl.l0 (Nat.le_of_ble_eq_true rfl) u_72 rfl (hb.hl.f9) ?_
    refine zi_iload_n dX11_clashes_58 rfl rfl ?_
    have o2 := K.1
    have K := K.2
    refine zg_iaload dX11_clashes_59 (hb.hl.s5) (hb.hl.lt 5 (Nat.le_of_ble_eq_true rfl)) o2 ?_
    refine zi_aload_n dX11_clashes_60 rfl rfl ?_
    refine zg_getF (k := 0) (v := .ref b) dX11_clashes_61 zc11 rfl (Nat.le_of_ble_eq_true rfl) (Nat.le_of_ble_eq_true rfl) u_244 rfl (rfl) ?_
    refine zg_getF (k := 9) (v := .ref (b + 5)) dX11_clashes_64 zc4 hb.hl.sh hb.hl.l0 (Nat.le_of_ble_eq_true rfl) u_72 rfl (hb.hl.f9) ?_
    refine zi_iload_n dX11_clashes_67 rfl rfl ?_
    have o3 := K.1
    have K := K.2
    refine zg_iaload dX11_clashes_68 (hb.hl.s5) (hb.hl.lt 5 (Nat.le_of_ble_eq_true rfl)) o3 ?_
    refine zi_isub dX11_clashes_69 ?_
    refine zi_aload_n dX11_clashes_70 rfl rfl ?_
    refine zg_getF (k := 0) (v := .ref b) dX11_clashes_71 zc11 rfl (Nat.le_of_ble_eq_true rfl) (Nat.le_of_ble_eq_true rfl) u_244 rfl (rfl) ?_
    refine zg_getI (k := 0) dX11_clashes_74 zc4 hb.hl.sh hb.hl.l0 (Nat.le_of_ble_eq_true rfl) u_41 rfl ?_
    obtain ⟨r4, h5, K⟩ := K
    refine zi_callV (N := mX10_meet) (av := [.int x2, .int x3, .int ((I (b + 5) (zx x3)) - (I (b + 5) (zx x2))), .int (I b 0)]) (st := []) (R1 := (some (.int (zB r4)), zh b I L)) dX11_clashes_77 okX10_meet u_622 u_623 u_624 zc10 (rfl) (Nat.le_of_ble_eq_true rfl) arX10_meet rfl (Nat.le_of_ble_eq_true rfl) (h5) hR ?_
    show zA G (d + 6) mX11_clashes 80 [some (.ref 0), some (.int x1), some (.int x2), some (.int x3)] [.int (zB r4)] (zh b I L) R
    refine zi_if_eq (tgt := 86) dX11_clashes_80 (by decide) (fun c6 => ?_) (fun c6 => ?_)
    · have K := K.1 (zB_0 c6)
      refine zi_iinc (v := x3 + 1) (ls' := [some (.ref 0), some (.int x1), some (.int x2), some (.int (x3 + 1))]) dX11_clashes_86 rfl (by decide) rfl rfl ?_
      refine zi_goto (tgt := 34) dX11_clashes_89 (by decide) ?_
      exact K
    · have K := K.2 (zB_1 c6)
      refine zi_iinc (v := x1 + 1) (ls' := [some (.ref 0), some (.int (x1 + 1)), some (.int x2), some (.int x3)]) dX11_clashes_83 rfl (by decide) rfl rfl ?_
      refine zi_iinc (v := x3 + 1) (ls' := [some (.ref 0), some (.int (x1 + 1)), some (.int x2), some (.int (x3 + 1))]) dX11_clashes_86 rfl (by decide) rfl rfl ?_
      refine zi_goto (tgt := 34) dX11_clashes_89 (by decide) ?_
      exact K
set_option maxRecDepth 100000 in
theorem tX11_apart_0 {G : zG} {d b : Nat} {I : Nat → Nat → Int32} {L : Nat → Nat → Int64} {R : zR}  (hR : zR0 R)
    (K : (∃ (I1 : Nat → Nat → Int32), zCall (d + 5) mX10_followAll [.ref 43, .ref b, .ref 37] (zh b I L) (none, zh b I1 L) ∧ zA G (d + 6) mX11_apart 17 [some (.ref 0), some (.int 0)] [] (zh b I1 L) R)) :
    zA G (d + 6) mX11_apart 0 [some (.ref 0), none] [] (zh b I L) R := by
  refine zi_aload_n dX11_apart_0 rfl rfl ?_
  refine zg_getF (k := 5) (v := .ref 43) dX11_apart_1 zc11 rfl (Nat.le_of_ble_eq_true rfl) (Nat.le_of_ble_eq_true rfl) u_249 rfl (rfl) ?_
  refine zi_aload_n dX11_apart_4 rfl rfl ?_
  refine zg_getF (k := 0) (v := .ref b) dX11_apart_5 zc11 rfl (Nat.le_of_ble_eq_true rfl) (Nat.le_of_ble_eq_true rfl) u_244 rfl (rfl) ?_
  refine zi_aload_n dX11_apart_8 rfl rfl ?_
  refine zg_getF (k := 4) (v := .ref 37) dX11_apart_9 zc11 rfl (Nat.le_of_ble_eq_true rfl) (Nat.le_of_ble_eq_true rfl) u_248 rfl (rfl) ?_
  obtain ⟨I1, h2, K⟩ := K
  refine zi_callV (N := mX10_followAll) (av := [.ref b, .ref 37]) (st := []) (R1 := (none, zh b I1 L)) dX11_apart_12 okX10_followAll u_609 u_610 u_611 zc10 (rfl) (Nat.le_of_ble_eq_true rfl) arX10_followAll rfl (Nat.le_of_ble_eq_true rfl) (h2) hR ?_
  show zA G (d + 6) mX11_apart 15 [some (.ref 0), none] [] (zh b I1 L) R
  refine zi_iconst (v := 0) dX11_apart_15 (by decide) ?_
  refine zi_istore_n (ls' := [some (.ref 0), some (.int 0)]) dX11_apart_16 rfl (by decide) rfl ?_
  exact K
set_option maxRecDepth 100000 in
theorem tX11_apart_17 {G : zG} {d b : Nat} {I : Nat → Nat → Int32} {L : Nat → Nat → Int64} {R : zR} {x1 : Int32} (hR : zR0 R)
    (K : ((99 < x1 → R = (some (.int (-1)), zh b I L)) ∧ (¬ 99 < x1 → (∃ (r2 : Bool), zCall (d + 5) mX11_anyMeetWhenApart [.ref 0, .int x1] (zh b I L) (some (.int (zB r2)), zh b I L) ∧ ((r2 = true → zA G (d + 6) mX11_apart 17 [some (.ref 0), some (.int (x1 + 1))] [] (zh b I L) R) ∧ (r2 = false → R = (some (.int x1), zh b I L))))))) :
    zA G (d + 6) mX11_apart 17 [some (.ref 0), some (.int x1)] [] (zh b I L) R := by
  refine zi_iload_n dX11_apart_17 rfl rfl ?_
  refine zi_bipush (v := 99) dX11_apart_18 (by decide) ?_
  refine zi_icmp_gt (tgt := 39) dX11_apart_20 (by decide) (fun c1 => ?_) (fun c1 => ?_)
  · have K := K.1 c1
    refine zi_iconst (v := (-1)) dX11_apart_39 (by decide) ?_
    subst K
    exact zi_ireturn dX11_apart_40 rfl rfl
  · have K := K.2 c1
    refine zi_aload_n dX11_apart_23 rfl rfl ?_
    refine zi_iload_n dX11_apart_24 rfl rfl ?_
    obtain ⟨r2, h3, K⟩ := K
    refine zi_callV (N := mX11_anyMeetWhenApart) (av := [.int x1]) (st := []) (R1 := (some (.int (zB r2)), zh b I L)) dX11_apart_25 okX11_anyMeetWhenApart u_630 u_632 s_16 zc11 (rfl) (Nat.le_of_ble_eq_true rfl) arX11_anyMeetWhenApart rfl (Nat.le_of_ble_eq_true rfl) (h3) hR ?_
    show zA G (d + 6) mX11_apart 28 [some (.ref 0), some (.int x1)] [.int (zB r2)] (zh b I L) R
    refine zi_if_ne (tgt := 33) dX11_apart_28 (by decide) (fun c4 => ?_) (fun c4 => ?_)
    · have K := K.1 (zB_1 c4)
      refine zi_iinc (v := x1 + 1) (ls' := [some (.ref 0), some (.int (x1 + 1))]) dX11_apart_33 rfl (by decide) rfl rfl ?_
      refine zi_goto (tgt := 17) dX11_apart_36 (by decide) ?_
      exact K
    · have K := K.2 (zB_0 c4)
      refine zi_iload_n dX11_apart_31 rfl rfl ?_
      subst K
      exact zi_ireturn dX11_apart_32 rfl rfl
set_option maxRecDepth 100000 in
theorem tX11_began_0 {G : zG} {d b : Nat} {I : Nat → Nat → Int32} {L : Nat → Nat → Int64} {R : zR} {x1 : Int32} {x2 : Int32} (hb : zbl b) (hR : zR0 R)
    (K : ((¬ (0 ≤ x1 ∧ x1 ≤ I b 2 - 1) → (∃ (r2 : Int32) (I3 : Nat → Nat → Int32), zCall (d + 4) mX11_refuseBad [.ref 0, .int (-1000)] (zh b I L) (some (.int r2), zh b I3 L) ∧ R = (some (.int r2), zh b I3 L))) ∧ ((0 ≤ x1 ∧ x1 ≤ I b 2 - 1) → (((0 ≤ x2 ∧ x2 ≤ 999) → (∃ (I6 : Nat → Nat → Int32), zCall (d + 4) mX10_follow [.ref 43, .ref b, .ref 37, .int x1, .int 8] (zh b I L) (none, zh b I6 L) ∧ (vp_in ((x1 * 9) + (I6 b 0)) 54 ∧ R = (some (.int (x2 - (I6 46 (zx ((x1 * 9) + (I6 b 0)))))), zh b I6 L)))) ∧ (¬ (0 ≤ x2 ∧ x2 ≤ 999) → (∃ (r9 : Int32) (I10 : Nat → Nat → Int32), zCall (d + 4) mX11_refuseBad [.ref 0, .int (-1000)] (zh b I L) (some (.int r9), zh b I10 L) ∧ R = (some (.int r9), zh b I10 L))))))) :
    zA G (d + 5) mX11_began 0 [some (.ref 0), some (.int x1), some (.int x2)] [] (zh b I L) R := by
  refine zi_aload_n dX11_began_0 rfl rfl ?_
  refine zg_getF (k := 0) (v := .ref b) dX11_began_1 zc11 rfl (Nat.le_of_ble_eq_true rfl) (Nat.le_of_ble_eq_true rfl) u_244 rfl (rfl) ?_
  refine zi_iload_n dX11_began_4 rfl rfl ?_
  refine zi_callV (N := mX4_hasRunner) (av := [.int x1]) (st := []) (R1 := (some (.int (zb (0 ≤ x1 ∧ x1 ≤ I b 2 - 1))), zh b I L)) dX11_began_5 okX4_hasRunner u_340 u_341 u_342 zc4 (hb.hl.sh) hb.hl.l0 arX4_hasRunner rfl (Nat.le_of_ble_eq_true rfl) (kX4_hasRunner hb.hl _) hR ?_
  show zA G (d + 5) mX11_began 8 [some (.ref 0), some (.int x1), some (.int x2)] [.int (zb (0 ≤ x1 ∧ x1 ≤ I b 2 - 1))] (zh b I L) R
  refine zi_if_eq (tgt := 22) dX11_began_8 (by decide) (fun c1 => ?_) (fun c1 => ?_)
  · have K := K.1 (zb_0 c1)
    refine zi_aload_n dX11_began_22 rfl rfl ?_
    refine zi_sipush (v := (-1000)) dX11_began_23 (by decide) ?_
    obtain ⟨r2, I3, h4, K⟩ := K
    refine zi_callV (N := mX11_refuseBad) (av := [.int (-1000)]) (st := []) (R1 := (some (.int r2), zh b I3 L)) dX11_began_26 okX11_refuseBad u_297 u_299 s_0 zc11 (rfl) (Nat.le_of_ble_eq_true rfl) arX11_refuseBad rfl (Nat.le_of_ble_eq_true rfl) (h4) hR ?_
    show zA G (d + 5) mX11_began 29 [some (.ref 0), some (.int x1), some (.int x2)] [.int r2] (zh b I3 L) R
    subst K
    exact zi_ireturn dX11_began_29 rfl rfl
  · have K := K.2 (zb_1 c1)
    refine zi_iload_n dX11_began_11 rfl rfl ?_
    refine zi_iconst (v := 0) dX11_began_12 (by decide) ?_
    refine zi_sipush (v := 999) dX11_began_13 (by decide) ?_
    refine zi_callS (N := mX11_within) (av := [.int x2, .int 0, .int 999]) (st := []) (R1 := (some (.int (zb (0 ≤ x2 ∧ x2 ≤ 999))), zh b I L)) dX11_began_16 okX11_within u_294 u_295 arX11_within rfl (Nat.le_of_ble_eq_true rfl) (kX11_within _ _ _) hR ?_
    show zA G (d + 5) mX11_began 19 [some (.ref 0), some (.int x1), some (.int x2)] [.int (zb (0 ≤ x2 ∧ x2 ≤ 999))] (zh b I L) R
    refine zi_if_ne (tgt := 30) dX11_began_19 (by decide) (fun c5 => ?_) (fun c5 => ?_)
    · have K := K.1 (zb_1 c5)
      refine zi_aload_n dX11_began_30 rfl rfl ?_
      refine zg_getF (k := 5) (v := .ref 43) dX11_began_31 zc11 rfl (Nat.le_of_ble_eq_true rfl) (Nat.le_of_ble_eq_true rfl) u_249 rfl (rfl) ?_
      refine zi_aload_n dX11_began_34 rfl rfl ?_
      refine zg_getF (k := 0) (v := .ref b) dX11_began_35 zc11 rfl (Nat.le_of_ble_eq_true rfl) (Nat.le_of_ble_eq_true rfl) u_244 rfl (rfl) ?_
      refine zi_aload_n dX11_began_38 rfl rfl ?_
      refine zg_getF (k := 4) (v := .ref 37) dX11_began_39 zc11 rfl (Nat.le_of_ble_eq_true rfl) (Nat.le_of_ble_eq_true rfl) u_248 rfl (rfl) ?_
      refine zi_iload_n dX11_began_42 rfl rfl ?_
      refine zi_bipush (v := 8) dX11_began_43 (by decide) ?_
      obtain ⟨I6, h7, K⟩ := K
      refine zi_callV (N := mX10_follow) (av := [.ref b, .ref 37, .int x1, .int 8]) (st := []) (R1 := (none, zh b I6 L)) dX11_began_45 okX10_follow u_469 u_470 u_471 zc10 (rfl) (Nat.le_of_ble_eq_true rfl) arX10_follow rfl (Nat.le_of_ble_eq_true rfl) (h7) hR ?_
      show zA G (d + 5) mX11_began 48 [some (.ref 0), some (.int x1), some (.int x2)] [] (zh b I6 L) R
      refine zi_iload_n dX11_began_48 rfl rfl ?_
      refine zi_aload_n dX11_began_49 rfl rfl ?_
      refine zg_getF (k := 5) (v := .ref 43) dX11_began_50 zc11 rfl (Nat.le_of_ble_eq_true rfl) (Nat.le_of_ble_eq_true rfl) u_249 rfl (rfl) ?_
      refine zg_getF (k := 2) (v := .ref 46) dX11_began_53 zc10 rfl (Nat.le_of_ble_eq_true rfl) (Nat.le_of_ble_eq_true rfl) u_177 rfl (rfl) ?_
      refine zi_iload_n dX11_began_56 rfl rfl ?_
      refine zi_aload_n dX11_began_57 rfl rfl ?_
      refine zg_getF (k := 0) (v := .ref b) dX11_began_58 zc11 rfl (Nat.le_of_ble_eq_true rfl) (Nat.le_of_ble_eq_true rfl) u_244 rfl (rfl) ?_
      refine zg_getI (k := 0) dX11_began_61 zc4 hb.hl.sh hb.hl.l0 (Nat.le_of_ble_eq_true rfl) u_41 rfl ?_
      refine zi_callS (N := mX11_onWay) (av := [.int x1, .int (I6 b 0)]) (st := [.ref 46, .int x2]) (R1 := (some (.int ((x1 * 9) + (I6 b 0))), zh b I6 L)) dX11_began_64 okX11_onWay u_557 u_516 arX11_onWay rfl (Nat.le_of_ble_eq_true rfl) (kX11_onWay _ _) hR ?_
      show zA G (d + 5) mX11_began 67 [some (.ref 0), some (.int x1), some (.int x2)] [.int ((x1 * 9) + (I6 b 0)), .ref 46, .int x2] (zh b I6 L) R
      have o8 := K.1
      have K := K.2
      refine zg_iaload dX11_began_67 (rfl) (Nat.le_of_ble_eq_true rfl) o8 ?_
      refine zi_isub dX11_began_68 ?_
      subst K
      exact zi_ireturn dX11_began_69 rfl rfl
    · have K := K.2 (zb_0 c5)
      refine zi_aload_n dX11_began_22 rfl rfl ?_
      refine zi_sipush (v := (-1000)) dX11_began_23 (by decide) ?_
      obtain ⟨r9, I10, h11, K⟩ := K
      refine zi_callV (N := mX11_refuseBad) (av := [.int (-1000)]) (st := []) (R1 := (some (.int r9), zh b I10 L)) dX11_began_26 okX11_refuseBad u_297 u_299 s_0 zc11 (rfl) (Nat.le_of_ble_eq_true rfl) arX11_refuseBad rfl (Nat.le_of_ble_eq_true rfl) (h11) hR ?_
      show zA G (d + 5) mX11_began 29 [some (.ref 0), some (.int x1), some (.int x2)] [.int r9] (zh b I10 L) R
      subst K
      exact zi_ireturn dX11_began_29 rfl rfl
set_option maxRecDepth 100000 in
theorem tX11_cheese_0 {G : zG} {d b : Nat} {I : Nat → Nat → Int32} {L : Nat → Nat → Int64} {R : zR} {x1 : Int32} {x2 : Int32} (hb : zbl b) (hR : zR0 R)
    (K : ((¬ (0 ≤ x1 ∧ x1 ≤ ((I b 1) - 1)) → (∃ (r2 : Int32) (I3 : Nat → Nat → Int32), zCall (d + 1) mX11_refuseBad [.ref 0, .int (-2)] (zh b I L) (some (.int r2), zh b I3 L) ∧ R = (some (.int r2), zh b I3 L))) ∧ ((0 ≤ x1 ∧ x1 ≤ ((I b 1) - 1)) → (((0 ≤ x2 ∧ x2 ≤ ((I b 1) - 1)) → (∃ (I6 : Nat → Nat → Int32), zCall (d + 1) mX1_roll [.ref 50, .ref b, .int x1] (zh b I L) (none, zh b I6 L) ∧ (vp_in x2 6 ∧ (∃ (L9 : Nat → Nat → Int64), zCall (d + 1) mX11_setFraction [.ref 0, .long ((I6 51 (zx x2)).toInt64), .long (1 <<< ((I6 b 0).toInt64 &&& 63))] (zh b I6 L) (none, zh b I6 L9) ∧ R = (some (.int 1), zh b I6 L9))))) ∧ (¬ (0 ≤ x2 ∧ x2 ≤ ((I b 1) - 1)) → (∃ (r11 : Int32) (I12 : Nat → Nat → Int32), zCall (d + 1) mX11_refuseBad [.ref 0, .int (-2)] (zh b I L) (some (.int r11), zh b I12 L) ∧ R = (some (.int r11), zh b I12 L))))))) :
    zA G (d + 2) mX11_cheese 0 [some (.ref 0), some (.int x1), some (.int x2)] [] (zh b I L) R := by
  refine zi_iload_n dX11_cheese_0 rfl rfl ?_
  refine zi_iconst (v := 0) dX11_cheese_1 (by decide) ?_
  refine zi_aload_n dX11_cheese_2 rfl rfl ?_
  refine zg_getF (k := 0) (v := .ref b) dX11_cheese_3 zc11 rfl (Nat.le_of_ble_eq_true rfl) (Nat.le_of_ble_eq_true rfl) u_244 rfl (rfl) ?_
  refine zg_getI (k := 1) dX11_cheese_6 zc4 hb.hl.sh hb.hl.l0 (Nat.le_of_ble_eq_true rfl) u_44 rfl ?_
  refine zi_iconst (v := 1) dX11_cheese_9 (by decide) ?_
  refine zi_isub dX11_cheese_10 ?_
  refine zi_callS (N := mX11_within) (av := [.int x1, .int 0, .int ((I b 1) - 1)]) (st := []) (R1 := (some (.int (zb (0 ≤ x1 ∧ x1 ≤ ((I b 1) - 1)))), zh b I L)) dX11_cheese_11 okX11_within u_294 u_295 arX11_within rfl (Nat.le_of_ble_eq_true rfl) (kX11_within _ _ _) hR ?_
  show zA G (d + 2) mX11_cheese 14 [some (.ref 0), some (.int x1), some (.int x2)] [.int (zb (0 ≤ x1 ∧ x1 ≤ ((I b 1) - 1)))] (zh b I L) R
  refine zi_if_eq (tgt := 34) dX11_cheese_14 (by decide) (fun c1 => ?_) (fun c1 => ?_)
  · have K := K.1 (zb_0 c1)
    refine zi_aload_n dX11_cheese_34 rfl rfl ?_
    refine zi_bipush (v := (-2)) dX11_cheese_35 (by decide) ?_
    obtain ⟨r2, I3, h4, K⟩ := K
    refine zi_callV (N := mX11_refuseBad) (av := [.int (-2)]) (st := []) (R1 := (some (.int r2), zh b I3 L)) dX11_cheese_37 okX11_refuseBad u_297 u_299 s_0 zc11 (rfl) (Nat.le_of_ble_eq_true rfl) arX11_refuseBad rfl (Nat.le_of_ble_eq_true rfl) (h4) hR ?_
    show zA G (d + 2) mX11_cheese 40 [some (.ref 0), some (.int x1), some (.int x2)] [.int r2] (zh b I3 L) R
    subst K
    exact zi_ireturn dX11_cheese_40 rfl rfl
  · have K := K.2 (zb_1 c1)
    refine zi_iload_n dX11_cheese_17 rfl rfl ?_
    refine zi_iconst (v := 0) dX11_cheese_18 (by decide) ?_
    refine zi_aload_n dX11_cheese_19 rfl rfl ?_
    refine zg_getF (k := 0) (v := .ref b) dX11_cheese_20 zc11 rfl (Nat.le_of_ble_eq_true rfl) (Nat.le_of_ble_eq_true rfl) u_244 rfl (rfl) ?_
    refine zg_getI (k := 1) dX11_cheese_23 zc4 hb.hl.sh hb.hl.l0 (Nat.le_of_ble_eq_true rfl) u_44 rfl ?_
    refine zi_iconst (v := 1) dX11_cheese_26 (by decide) ?_
    refine zi_isub dX11_cheese_27 ?_
    refine zi_callS (N := mX11_within) (av := [.int x2, .int 0, .int ((I b 1) - 1)]) (st := []) (R1 := (some (.int (zb (0 ≤ x2 ∧ x2 ≤ ((I b 1) - 1)))), zh b I L)) dX11_cheese_28 okX11_within u_294 u_295 arX11_within rfl (Nat.le_of_ble_eq_true rfl) (kX11_within _ _ _) hR ?_
    show zA G (d + 2) mX11_cheese 31 [some (.ref 0), some (.int x1), some (.int x2)] [.int (zb (0 ≤ x2 ∧ x2 ≤ ((I b 1) - 1)))] (zh b I L) R
    refine zi_if_ne (tgt := 41) dX11_cheese_31 (by decide) (fun c5 => ?_) (fun c5 => ?_)
    · have K := K.1 (zb_1 c5)
      refine zi_aload_n dX11_cheese_41 rfl rfl ?_
      refine zg_getF (k := 7) (v := .ref 50) dX11_cheese_42 zc11 rfl (Nat.le_of_ble_eq_true rfl) (Nat.le_of_ble_eq_true rfl) u_251 rfl (rfl) ?_
      refine zi_aload_n dX11_cheese_45 rfl rfl ?_
      refine zg_getF (k := 0) (v := .ref b) dX11_cheese_46 zc11 rfl (Nat.le_of_ble_eq_true rfl) (Nat.le_of_ble_eq_true rfl) u_244 rfl (rfl) ?_
      refine zi_iload_n dX11_cheese_49 rfl rfl ?_
      obtain ⟨I6, h7, K⟩ := K
      refine zi_callV (N := mX1_roll) (av := [.ref b, .int x1]) (st := []) (R1 := (none, zh b I6 L)) dX11_cheese_50 okX1_roll u_642 u_643 u_644 zc1 (rfl) (Nat.le_of_ble_eq_true rfl) arX1_roll rfl (Nat.le_of_ble_eq_true rfl) (h7) hR ?_
      show zA G (d + 2) mX11_cheese 53 [some (.ref 0), some (.int x1), some (.int x2)] [] (zh b I6 L) R
      refine zi_aload_n dX11_cheese_53 rfl rfl ?_
      refine zi_aload_n dX11_cheese_54 rfl rfl ?_
      refine zg_getF (k := 7) (v := .ref 50) dX11_cheese_55 zc11 rfl (Nat.le_of_ble_eq_true rfl) (Nat.le_of_ble_eq_true rfl) u_251 rfl (rfl) ?_
      refine zg_getF (k := 0) (v := .ref 51) dX11_cheese_58 zc1 rfl (Nat.le_of_ble_eq_true rfl) (Nat.le_of_ble_eq_true rfl) u_206 rfl (rfl) ?_
      refine zi_iload_n dX11_cheese_61 rfl rfl ?_
      have o8 := K.1
      have K := K.2
      refine zg_iaload dX11_cheese_62 (rfl) (Nat.le_of_ble_eq_true rfl) o8 ?_
      refine zi_i2l dX11_cheese_63 ?_
      refine zi_lconst (v := 1) dX11_cheese_64 (by decide) ?_
      refine zi_aload_n dX11_cheese_65 rfl rfl ?_
      refine zg_getF (k := 0) (v := .ref b) dX11_cheese_66 zc11 rfl (Nat.le_of_ble_eq_true rfl) (Nat.le_of_ble_eq_true rfl) u_244 rfl (rfl) ?_
      refine zg_getI (k := 0) dX11_cheese_69 zc4 hb.hl.sh hb.hl.l0 (Nat.le_of_ble_eq_true rfl) u_41 rfl ?_
      refine zi_lshl dX11_cheese_72 ?_
      obtain ⟨L9, h10, K⟩ := K
      refine zi_callV (N := mX11_setFraction) (av := [.long ((I6 51 (zx x2)).toInt64), .long (1 <<< ((I6 b 0).toInt64 &&& 63))]) (st := []) (R1 := (none, zh b I6 L9)) dX11_cheese_73 okX11_setFraction u_652 u_654 s_17 zc11 (rfl) (Nat.le_of_ble_eq_true rfl) arX11_setFraction rfl (Nat.le_of_ble_eq_true rfl) (h10) hR ?_
      show zA G (d + 2) mX11_cheese 76 [some (.ref 0), some (.int x1), some (.int x2)] [] (zh b I6 L9) R
      refine zi_iconst (v := 1) dX11_cheese_76 (by decide) ?_
      subst K
      exact zi_ireturn dX11_cheese_77 rfl rfl
    · have K := K.2 (zb_0 c5)
      refine zi_aload_n dX11_cheese_34 rfl rfl ?_
      refine zi_bipush (v := (-2)) dX11_cheese_35 (by decide) ?_
      obtain ⟨r11, I12, h13, K⟩ := K
      refine zi_callV (N := mX11_refuseBad) (av := [.int (-2)]) (st := []) (R1 := (some (.int r11), zh b I12 L)) dX11_cheese_37 okX11_refuseBad u_297 u_299 s_0 zc11 (rfl) (Nat.le_of_ble_eq_true rfl) arX11_refuseBad rfl (Nat.le_of_ble_eq_true rfl) (h13) hR ?_
      show zA G (d + 2) mX11_cheese 40 [some (.ref 0), some (.int x1), some (.int x2)] [.int r11] (zh b I12 L) R
      subst K
      exact zi_ireturn dX11_cheese_40 rfl rfl
set_option maxRecDepth 100000 in
theorem tX11_fence_0 {G : zG} {d b : Nat} {I : Nat → Nat → Int32} {L : Nat → Nat → Int64} {R : zR} {x1 : Int32} {x2 : Int32} (hb : zbl b) (hR : zR0 R)
    (K : ((¬ (0 ≤ x1 ∧ x1 ≤ ((I b 1) - 1)) → (∃ (r2 : Int32) (I3 : Nat → Nat → Int32), zCall (d + 1) mX11_refuseBad [.ref 0, .int (-2)] (zh b I L) (some (.int r2), zh b I3 L) ∧ R = (some (.int r2), zh b I3 L))) ∧ ((0 ≤ x1 ∧ x1 ≤ ((I b 1) - 1)) → (((1 ≤ x2 ∧ x2 ≤ 100) → (∃ (I6 : Nat → Nat → Int32), zCall (d + 1) mX1_roll [.ref 50, .ref b, .int x1] (zh b I L) (none, zh b I6 L) ∧ zA G (d + 2) mX11_fence 61 [some (.ref 0), some (.int x1), some (.int x2), some (.int (x2 * (1 <<< ((I6 b 0) &&& 31)))), some (.int 1), none] [] (zh b I6 L) R)) ∧ (¬ (1 ≤ x2 ∧ x2 ≤ 100) → (∃ (r8 : Int32) (I9 : Nat → Nat → Int32), zCall (d + 1) mX11_refuseBad [.ref 0, .int (-2)] (zh b I L) (some (.int r8), zh b I9 L) ∧ R = (some (.int r8), zh b I9 L))))))) :
    zA G (d + 2) mX11_fence 0 [some (.ref 0), some (.int x1), some (.int x2), none, none, none] [] (zh b I L) R := by
  refine zi_iload_n dX11_fence_0 rfl rfl ?_
  refine zi_iconst (v := 0) dX11_fence_1 (by decide) ?_
  refine zi_aload_n dX11_fence_2 rfl rfl ?_
  refine zg_getF (k := 0) (v := .ref b) dX11_fence_3 zc11 rfl (Nat.le_of_ble_eq_true rfl) (Nat.le_of_ble_eq_true rfl) u_244 rfl (rfl) ?_
  refine zg_getI (k := 1) dX11_fence_6 zc4 hb.hl.sh hb.hl.l0 (Nat.le_of_ble_eq_true rfl) u_44 rfl ?_
  refine zi_iconst (v := 1) dX11_fence_9 (by decide) ?_
  refine zi_isub dX11_fence_10 ?_
  refine zi_callS (N := mX11_within) (av := [.int x1, .int 0, .int ((I b 1) - 1)]) (st := []) (R1 := (some (.int (zb (0 ≤ x1 ∧ x1 ≤ ((I b 1) - 1)))), zh b I L)) dX11_fence_11 okX11_within u_294 u_295 arX11_within rfl (Nat.le_of_ble_eq_true rfl) (kX11_within _ _ _) hR ?_
  show zA G (d + 2) mX11_fence 14 [some (.ref 0), some (.int x1), some (.int x2), none, none, none] [.int (zb (0 ≤ x1 ∧ x1 ≤ ((I b 1) - 1)))] (zh b I L) R
  refine zi_if_eq (tgt := 27) dX11_fence_14 (by decide) (fun c1 => ?_) (fun c1 => ?_)
  · have K := K.1 (zb_0 c1)
    refine zi_aload_n dX11_fence_27 rfl rfl ?_
    refine zi_bipush (v := (-2)) dX11_fence_28 (by decide) ?_
    obtain ⟨r2, I3, h4, K⟩ := K
    refine zi_callV (N := mX11_refuseBad) (av := [.int (-2)]) (st := []) (R1 := (some (.int r2), zh b I3 L)) dX11_fence_30 okX11_refuseBad u_297 u_299 s_0 zc11 (rfl) (Nat.le_of_ble_eq_true rfl) arX11_refuseBad rfl (Nat.le_of_ble_eq_true rfl) (h4) hR ?_
    show zA G (d + 2) mX11_fence 33 [some (.ref 0), some (.int x1), some (.int x2), none, none, none] [.int r2] (zh b I3 L) R
    subst K
    exact zi_ireturn dX11_fence_33 rfl rfl
  · have K := K.2 (zb_1 c1)
    refine zi_iload_n dX11_fence_17 rfl rfl ?_
    refine zi_iconst (v := 1) dX11_fence_18 (by decide) ?_
    refine zi_bipush (v := 100) dX11_fence_19 (by decide) ?_
    refine zi_callS (N := mX11_within) (av := [.int x2, .int 1, .int 100]) (st := []) (R1 := (some (.int (zb (1 ≤ x2 ∧ x2 ≤ 100))), zh b I L)) dX11_fence_21 okX11_within u_294 u_295 arX11_within rfl (Nat.le_of_ble_eq_true rfl) (kX11_within _ _ _) hR ?_
    show zA G (d + 2) mX11_fence 24 [some (.ref 0), some (.int x1), some (.int x2), none, none, none] [.int (zb (1 ≤ x2 ∧ x2 ≤ 100))] (zh b I L) R
    refine zi_if_ne (tgt := 34) dX11_fence_24 (by decide) (fun c5 => ?_) (fun c5 => ?_)
    · have K := K.1 (zb_1 c5)
      refine zi_aload_n dX11_fence_34 rfl rfl ?_
      refine zg_getF (k := 7) (v := .ref 50) dX11_fence_35 zc11 rfl (Nat.le_of_ble_eq_true rfl) (Nat.le_of_ble_eq_true rfl) u_251 rfl (rfl) ?_
      refine zi_aload_n dX11_fence_38 rfl rfl ?_
      refine zg_getF (k := 0) (v := .ref b) dX11_fence_39 zc11 rfl (Nat.le_of_ble_eq_true rfl) (Nat.le_of_ble_eq_true rfl) u_244 rfl (rfl) ?_
      refine zi_iload_n dX11_fence_42 rfl rfl ?_
      obtain ⟨I6, h7, K⟩ := K
      refine zi_callV (N := mX1_roll) (av := [.ref b, .int x1]) (st := []) (R1 := (none, zh b I6 L)) dX11_fence_43 okX1_roll u_642 u_643 u_644 zc1 (rfl) (Nat.le_of_ble_eq_true rfl) arX1_roll rfl (Nat.le_of_ble_eq_true rfl) (h7) hR ?_
      show zA G (d + 2) mX11_fence 46 [some (.ref 0), some (.int x1), some (.int x2), none, none, none] [] (zh b I6 L) R
      refine zi_iload_n dX11_fence_46 rfl rfl ?_
      refine zi_iconst (v := 1) dX11_fence_47 (by decide) ?_
      refine zi_aload_n dX11_fence_48 rfl rfl ?_
      refine zg_getF (k := 0) (v := .ref b) dX11_fence_49 zc11 rfl (Nat.le_of_ble_eq_true rfl) (Nat.le_of_ble_eq_true rfl) u_244 rfl (rfl) ?_
      refine zg_getI (k := 0) dX11_fence_52 zc4 hb.hl.sh hb.hl.l0 (Nat.le_of_ble_eq_true rfl) u_41 rfl ?_
      refine zi_ishl dX11_fence_55 ?_
      refine zi_imul dX11_fence_56 ?_
      refine zi_istore_n (ls' := [some (.ref 0), some (.int x1), some (.int x2), some (.int (x2 * (1 <<< ((I6 b 0) &&& 31)))), none, none]) dX11_fence_57 rfl (by decide) rfl ?_
      refine zi_iconst (v := 1) dX11_fence_58 (by decide) ?_
      refine zi_istore (ls' := [some (.ref 0), some (.int x1), some (.int x2), some (.int (x2 * (1 <<< ((I6 b 0) &&& 31)))), some (.int 1), none]) dX11_fence_59 (by decide) rfl ?_
      exact K
    · have K := K.2 (zb_0 c5)
      refine zi_aload_n dX11_fence_27 rfl rfl ?_
      refine zi_bipush (v := (-2)) dX11_fence_28 (by decide) ?_
      obtain ⟨r8, I9, h10, K⟩ := K
      refine zi_callV (N := mX11_refuseBad) (av := [.int (-2)]) (st := []) (R1 := (some (.int r8), zh b I9 L)) dX11_fence_30 okX11_refuseBad u_297 u_299 s_0 zc11 (rfl) (Nat.le_of_ble_eq_true rfl) arX11_refuseBad rfl (Nat.le_of_ble_eq_true rfl) (h10) hR ?_
      show zA G (d + 2) mX11_fence 33 [some (.ref 0), some (.int x1), some (.int x2), none, none, none] [.int r8] (zh b I9 L) R
      subst K
      exact zi_ireturn dX11_fence_33 rfl rfl
set_option maxRecDepth 100000 in
theorem tX11_fence_61 {G : zG} {d b : Nat} {I : Nat → Nat → Int32} {L : Nat → Nat → Int64} {R : zR} {x1 : Int32} {x2 : Int32} {x3 : Int32} {x4 : Int32} (hb : zbl b)
    (K : (((I b 1) ≤ x4 → R = (some (.int ((I b 1) - 1)), zh b I L)) ∧ (¬ (I b 1) ≤ x4 → zA G (d + 2) mX11_fence 76 [some (.ref 0), some (.int x1), some (.int x2), some (.int x3), some (.int x4), some (.int 0)] [] (zh b I L) R))) :
    zA G (d + 2) mX11_fence 61 [some (.ref 0), some (.int x1), some (.int x2), some (.int x3), some (.int x4), none] [] (zh b I L) R := by
  refine zi_iload dX11_fence_61 rfl ?_
  refine zi_aload_n dX11_fence_63 rfl rfl ?_
  refine zg_getF (k := 0) (v := .ref b) dX11_fence_64 zc11 rfl (Nat.le_of_ble_eq_true rfl) (Nat.le_of_ble_eq_true rfl) u_244 rfl (rfl) ?_
  refine zg_getI (k := 1) dX11_fence_67 zc4 hb.hl.sh hb.hl.l0 (Nat.le_of_ble_eq_true rfl) u_44 rfl ?_
  refine zi_icmp_ge (tgt := 140) dX11_fence_70 (by decide) (fun c1 => ?_) (fun c1 => ?_)
  · have K := K.1 c1
    refine zi_aload_n dX11_fence_140 rfl rfl ?_
    refine zg_getF (k := 0) (v := .ref b) dX11_fence_141 zc11 rfl (Nat.le_of_ble_eq_true rfl) (Nat.le_of_ble_eq_true rfl) u_244 rfl (rfl) ?_
    refine zg_getI (k := 1) dX11_fence_144 zc4 hb.hl.sh hb.hl.l0 (Nat.le_of_ble_eq_true rfl) u_44 rfl ?_
    refine zi_iconst (v := 1) dX11_fence_147 (by decide) ?_
    refine zi_isub dX11_fence_148 ?_
    subst K
    exact zi_ireturn dX11_fence_149 rfl rfl
  · have K := K.2 c1
    refine zi_iconst (v := 0) dX11_fence_73 (by decide) ?_
    refine zi_istore (ls' := [some (.ref 0), some (.int x1), some (.int x2), some (.int x3), some (.int x4), some (.int 0)]) dX11_fence_74 (by decide) rfl ?_
    exact K
set_option maxRecDepth 100000 in
theorem tX11_fence_76 {G : zG} {d b : Nat} {I : Nat → Nat → Int32} {L : Nat → Nat → Int64} {R : zR} {x1 : Int32} {x2 : Int32} {x3 : Int32} {x4 : Int32} {x5 : Int32} (hb : zbl b) (hR : zR0 R)
    (K : (((I b 1) < (x5 + x4) → zA G (d + 2) mX11_fence 61 [some (.ref 0), some (.int x1), some (.int x2), some (.int x3), some (.int (x4 + 1)), none] [] (zh b I L) R) ∧ (¬ (I b 1) < (x5 + x4) → (∃ (r2 : Int32), zCall (d + 1) mX1_partsWithin [.ref 50, .int x5, .int ((x5 + x4) - 1)] (zh b I L) (some (.int r2), zh b I L) ∧ (((100 * r2) < x3 → zA G (d + 2) mX11_fence 76 [some (.ref 0), some (.int x1), some (.int x2), some (.int x3), some (.int x4), some (.int (x5 + 1))] [] (zh b I L) R) ∧ (¬ (100 * r2) < x3 → R = (some (.int ((((10 * x5) + x5) + x4) - 1)), zh b I L))))))) :
    zA G (d + 2) mX11_fence 76 [some (.ref 0), some (.int x1), some (.int x2), some (.int x3), some (.int x4), some (.int x5)] [] (zh b I L) R := by
  refine zi_iload dX11_fence_76 rfl ?_
  refine zi_iload dX11_fence_78 rfl ?_
  refine zi_iadd dX11_fence_80 ?_
  refine zi_aload_n dX11_fence_81 rfl rfl ?_
  refine zg_getF (k := 0) (v := .ref b) dX11_fence_82 zc11 rfl (Nat.le_of_ble_eq_true rfl) (Nat.le_of_ble_eq_true rfl) u_244 rfl (rfl) ?_
  refine zg_getI (k := 1) dX11_fence_85 zc4 hb.hl.sh hb.hl.l0 (Nat.le_of_ble_eq_true rfl) u_44 rfl ?_
  refine zi_icmp_gt (tgt := 134) dX11_fence_88 (by decide) (fun c1 => ?_) (fun c1 => ?_)
  · have K := K.1 c1
    refine zi_iinc (v := x4 + 1) (ls' := [some (.ref 0), some (.int x1), some (.int x2), some (.int x3), some (.int (x4 + 1)), some (.int x5)]) dX11_fence_134 rfl (by decide) rfl rfl ?_
    refine zi_goto (tgt := 61) dX11_fence_137 (by decide) ?_
    refine zi_mask [true, true, true, true, true, false] rfl ?_
    exact K
  · have K := K.2 c1
    refine zi_bipush (v := 100) dX11_fence_91 (by decide) ?_
    refine zi_aload_n dX11_fence_93 rfl rfl ?_
    refine zg_getF (k := 7) (v := .ref 50) dX11_fence_94 zc11 rfl (Nat.le_of_ble_eq_true rfl) (Nat.le_of_ble_eq_true rfl) u_251 rfl (rfl) ?_
    refine zi_iload dX11_fence_97 rfl ?_
    refine zi_iload dX11_fence_99 rfl ?_
    refine zi_iload dX11_fence_101 rfl ?_
    refine zi_iadd dX11_fence_103 ?_
    refine zi_iconst (v := 1) dX11_fence_104 (by decide) ?_
    refine zi_isub dX11_fence_105 ?_
    obtain ⟨r2, h3, K⟩ := K
    refine zi_callV (N := mX1_partsWithin) (av := [.int x5, .int ((x5 + x4) - 1)]) (st := [.int 100]) (R1 := (some (.int r2), zh b I L)) dX11_fence_106 okX1_partsWithin u_663 u_664 u_665 zc1 (rfl) (Nat.le_of_ble_eq_true rfl) arX1_partsWithin rfl (Nat.le_of_ble_eq_true rfl) (h3) hR ?_
    show zA G (d + 2) mX11_fence 109 [some (.ref 0), some (.int x1), some (.int x2), some (.int x3), some (.int x4), some (.int x5)] [.int r2, .int 100] (zh b I L) R
    refine zi_imul dX11_fence_109 ?_
    refine zi_iload_n dX11_fence_110 rfl rfl ?_
    refine zi_icmp_lt (tgt := 128) dX11_fence_111 (by decide) (fun c4 => ?_) (fun c4 => ?_)
    · have K := K.1 c4
      refine zi_iinc (v := x5 + 1) (ls' := [some (.ref 0), some (.int x1), some (.int x2), some (.int x3), some (.int x4), some (.int (x5 + 1))]) dX11_fence_128 rfl (by decide) rfl rfl ?_
      refine zi_goto (tgt := 76) dX11_fence_131 (by decide) ?_
      exact K
    · have K := K.2 c4
      refine zi_bipush (v := 10) dX11_fence_114 (by decide) ?_
      refine zi_iload dX11_fence_116 rfl ?_
      refine zi_imul dX11_fence_118 ?_
      refine zi_iload dX11_fence_119 rfl ?_
      refine zi_iadd dX11_fence_121 ?_
      refine zi_iload dX11_fence_122 rfl ?_
      refine zi_iadd dX11_fence_124 ?_
      refine zi_iconst (v := 1) dX11_fence_125 (by decide) ?_
      refine zi_isub dX11_fence_126 ?_
      subst K
      exact zi_ireturn dX11_fence_127 rfl rfl
set_option maxRecDepth 100000 in
theorem tX11_feet_0 {G : zG} {d b : Nat} {I : Nat → Nat → Int32} {L : Nat → Nat → Int64} {R : zR} {x1 : Int32} (hb : zbl b) (hR : zR0 R)
    (K : (((0 ≤ x1 ∧ x1 ≤ I b 2 - 1) → (∃ (I2 : Nat → Nat → Int32), zCall (d + 4) mX10_follow [.ref 43, .ref b, .ref 37, .int x1, .int 8] (zh b I L) (none, zh b I2 L) ∧ zA G (d + 5) mX11_feet 44 [some (.ref 0), some (.int x1), some (.long 1), none, some (.long 1), none, some (.int 0)] [] (zh b I2 L) R)) ∧ (¬ (0 ≤ x1 ∧ x1 ≤ I b 2 - 1) → (∃ (r4 : Int32) (I5 : Nat → Nat → Int32), zCall (d + 4) mX11_refuseBad [.ref 0, .int (-2)] (zh b I L) (some (.int r4), zh b I5 L) ∧ R = (some (.int r4), zh b I5 L))))) :
    zA G (d + 5) mX11_feet 0 [some (.ref 0), some (.int x1), none, none, none, none, none] [] (zh b I L) R := by
  refine zi_aload_n dX11_feet_0 rfl rfl ?_
  refine zg_getF (k := 0) (v := .ref b) dX11_feet_1 zc11 rfl (Nat.le_of_ble_eq_true rfl) (Nat.le_of_ble_eq_true rfl) u_244 rfl (rfl) ?_
  refine zi_iload_n dX11_feet_4 rfl rfl ?_
  refine zi_callV (N := mX4_hasRunner) (av := [.int x1]) (st := []) (R1 := (some (.int (zb (0 ≤ x1 ∧ x1 ≤ I b 2 - 1))), zh b I L)) dX11_feet_5 okX4_hasRunner u_340 u_341 u_342 zc4 (hb.hl.sh) hb.hl.l0 arX4_hasRunner rfl (Nat.le_of_ble_eq_true rfl) (kX4_hasRunner hb.hl _) hR ?_
  show zA G (d + 5) mX11_feet 8 [some (.ref 0), some (.int x1), none, none, none, none, none] [.int (zb (0 ≤ x1 ∧ x1 ≤ I b 2 - 1))] (zh b I L) R
  refine zi_if_ne (tgt := 18) dX11_feet_8 (by decide) (fun c1 => ?_) (fun c1 => ?_)
  · have K := K.1 (zb_1 c1)
    refine zi_aload_n dX11_feet_18 rfl rfl ?_
    refine zg_getF (k := 5) (v := .ref 43) dX11_feet_19 zc11 rfl (Nat.le_of_ble_eq_true rfl) (Nat.le_of_ble_eq_true rfl) u_249 rfl (rfl) ?_
    refine zi_aload_n dX11_feet_22 rfl rfl ?_
    refine zg_getF (k := 0) (v := .ref b) dX11_feet_23 zc11 rfl (Nat.le_of_ble_eq_true rfl) (Nat.le_of_ble_eq_true rfl) u_244 rfl (rfl) ?_
    refine zi_aload_n dX11_feet_26 rfl rfl ?_
    refine zg_getF (k := 4) (v := .ref 37) dX11_feet_27 zc11 rfl (Nat.le_of_ble_eq_true rfl) (Nat.le_of_ble_eq_true rfl) u_248 rfl (rfl) ?_
    refine zi_iload_n dX11_feet_30 rfl rfl ?_
    refine zi_bipush (v := 8) dX11_feet_31 (by decide) ?_
    obtain ⟨I2, h3, K⟩ := K
    refine zi_callV (N := mX10_follow) (av := [.ref b, .ref 37, .int x1, .int 8]) (st := []) (R1 := (none, zh b I2 L)) dX11_feet_33 okX10_follow u_469 u_470 u_471 zc10 (rfl) (Nat.le_of_ble_eq_true rfl) arX10_follow rfl (Nat.le_of_ble_eq_true rfl) (h3) hR ?_
    show zA G (d + 5) mX11_feet 36 [some (.ref 0), some (.int x1), none, none, none, none, none] [] (zh b I2 L) R
    refine zi_lconst (v := 1) dX11_feet_36 (by decide) ?_
    refine zi_lstore_n (ls' := [some (.ref 0), some (.int x1), some (.long 1), none, none, none, none]) dX11_feet_37 rfl (by decide) rfl ?_
    refine zi_lconst (v := 1) dX11_feet_38 (by decide) ?_
    refine zi_lstore (ls' := [some (.ref 0), some (.int x1), some (.long 1), none, some (.long 1), none, none]) dX11_feet_39 (by decide) rfl ?_
    refine zi_iconst (v := 0) dX11_feet_41 (by decide) ?_
    refine zi_istore (ls' := [some (.ref 0), some (.int x1), some (.long 1), none, some (.long 1), none, some (.int 0)]) dX11_feet_42 (by decide) rfl ?_
    exact K
  · have K := K.2 (zb_0 c1)
    refine zi_aload_n dX11_feet_11 rfl rfl ?_
    refine zi_bipush (v := (-2)) dX11_feet_12 (by decide) ?_
    obtain ⟨r4, I5, h6, K⟩ := K
    refine zi_callV (N := mX11_refuseBad) (av := [.int (-2)]) (st := []) (R1 := (some (.int r4), zh b I5 L)) dX11_feet_14 okX11_refuseBad u_297 u_299 s_0 zc11 (rfl) (Nat.le_of_ble_eq_true rfl) arX11_refuseBad rfl (Nat.le_of_ble_eq_true rfl) (h6) hR ?_
    show zA G (d + 5) mX11_feet 17 [some (.ref 0), some (.int x1), none, none, none, none, none] [.int r4] (zh b I5 L) R
    subst K
    exact zi_ireturn dX11_feet_17 rfl rfl
set_option maxRecDepth 100000 in
theorem tX11_feet_44 {G : zG} {d b : Nat} {I : Nat → Nat → Int32} {L : Nat → Nat → Int64} {R : zR} {x1 : Int32} {x2 : Int64} {x4 : Int64} {x6 : Int32} (hb : zbl b) (hR : zR0 R)
    (K : (((I b 0) ≤ x6 → (∃ (L2 : Nat → Nat → Int64), zCall (d + 4) mX11_setFraction [.ref 0, .long x2, .long x4] (zh b I L) (none, zh b I L2) ∧ R = (some (.int 1), zh b I L2))) ∧ (¬ (I b 0) ≤ x6 → (vp_in ((x1 * 9) + x6) 54 ∧ zA G (d + 5) mX11_feet 44 [some (.ref 0), some (.int x1), some (.long (x2 * ((40 - (I 45 (zx ((x1 * 9) + x6)))).toInt64))), none, some (.long (x4 * 40)), none, some (.int (x6 + 1))] [] (zh b I L) R)))) :
    zA G (d + 5) mX11_feet 44 [some (.ref 0), some (.int x1), some (.long x2), none, some (.long x4), none, some (.int x6)] [] (zh b I L) R := by
  refine zi_iload dX11_feet_44 rfl ?_
  refine zi_aload_n dX11_feet_46 rfl rfl ?_
  refine zg_getF (k := 0) (v := .ref b) dX11_feet_47 zc11 rfl (Nat.le_of_ble_eq_true rfl) (Nat.le_of_ble_eq_true rfl) u_244 rfl (rfl) ?_
  refine zg_getI (k := 0) dX11_feet_50 zc4 hb.hl.sh hb.hl.l0 (Nat.le_of_ble_eq_true rfl) u_41 rfl ?_
  refine zi_icmp_ge (tgt := 91) dX11_feet_53 (by decide) (fun c1 => ?_) (fun c1 => ?_)
  · have K := K.1 c1
    refine zi_aload_n dX11_feet_91 rfl rfl ?_
    refine zi_lload_n dX11_feet_92 rfl rfl ?_
    refine zi_lload dX11_feet_93 rfl ?_
    obtain ⟨L2, h3, K⟩ := K
    refine zi_callV (N := mX11_setFraction) (av := [.long x2, .long x4]) (st := []) (R1 := (none, zh b I L2)) dX11_feet_95 okX11_setFraction u_652 u_654 s_17 zc11 (rfl) (Nat.le_of_ble_eq_true rfl) arX11_setFraction rfl (Nat.le_of_ble_eq_true rfl) (h3) hR ?_
    show zA G (d + 5) mX11_feet 98 [some (.ref 0), some (.int x1), some (.long x2), none, some (.long x4), none, some (.int x6)] [] (zh b I L2) R
    refine zi_iconst (v := 1) dX11_feet_98 (by decide) ?_
    subst K
    exact zi_ireturn dX11_feet_99 rfl rfl
  · have K := K.2 c1
    refine zi_lload_n dX11_feet_56 rfl rfl ?_
    refine zi_bipush (v := 40) dX11_feet_57 (by decide) ?_
    refine zi_aload_n dX11_feet_59 rfl rfl ?_
    refine zg_getF (k := 5) (v := .ref 43) dX11_feet_60 zc11 rfl (Nat.le_of_ble_eq_true rfl) (Nat.le_of_ble_eq_true rfl) u_249 rfl (rfl) ?_
    refine zg_getF (k := 1) (v := .ref 45) dX11_feet_63 zc10 rfl (Nat.le_of_ble_eq_true rfl) (Nat.le_of_ble_eq_true rfl) u_175 rfl (rfl) ?_
    refine zi_iload_n dX11_feet_66 rfl rfl ?_
    refine zi_iload dX11_feet_67 rfl ?_
    refine zi_callS (N := mX11_onWay) (av := [.int x1, .int x6]) (st := [.ref 45, .int 40, .long x2]) (R1 := (some (.int ((x1 * 9) + x6)), zh b I L)) dX11_feet_69 okX11_onWay u_557 u_516 arX11_onWay rfl (Nat.le_of_ble_eq_true rfl) (kX11_onWay _ _) hR ?_
    show zA G (d + 5) mX11_feet 72 [some (.ref 0), some (.int x1), some (.long x2), none, some (.long x4), none, some (.int x6)] [.int ((x1 * 9) + x6), .ref 45, .int 40, .long x2] (zh b I L) R
    have o4 := K.1
    have K := K.2
    refine zg_iaload dX11_feet_72 (rfl) (Nat.le_of_ble_eq_true rfl) o4 ?_
    refine zi_isub dX11_feet_73 ?_
    refine zi_i2l dX11_feet_74 ?_
    refine zi_lmul dX11_feet_75 ?_
    refine zi_lstore_n (ls' := [some (.ref 0), some (.int x1), some (.long (x2 * ((40 - (I 45 (zx ((x1 * 9) + x6)))).toInt64))), none, some (.long x4), none, some (.int x6)]) dX11_feet_76 rfl (by decide) rfl ?_
    refine zi_lload dX11_feet_77 rfl ?_
    refine zi_ldc2 dX11_feet_79 u_671 ?_
    refine zi_lmul dX11_feet_82 ?_
    refine zi_lstore (ls' := [some (.ref 0), some (.int x1), some (.long (x2 * ((40 - (I 45 (zx ((x1 * 9) + x6)))).toInt64))), none, some (.long (x4 * 40)), none, some (.int x6)]) dX11_feet_83 (by decide) rfl ?_
    refine zi_iinc (v := x6 + 1) (ls' := [some (.ref 0), some (.int x1), some (.long (x2 * ((40 - (I 45 (zx ((x1 * 9) + x6)))).toInt64))), none, some (.long (x4 * 40)), none, some (.int (x6 + 1))]) dX11_feet_85 rfl (by decide) rfl rfl ?_
    refine zi_goto (tgt := 44) dX11_feet_88 (by decide) ?_
    exact K
set_option maxRecDepth 100000 in
theorem tX11_catchers_0 {G : zG} {d b : Nat} {I : Nat → Nat → Int32} {L : Nat → Nat → Int64} {R : zR}  (hR : zR0 R)
    (K : (∃ (I1 : Nat → Nat → Int32), zCall (d + 5) mX10_followAll [.ref 43, .ref b, .ref 37] (zh b I L) (none, zh b I1 L) ∧ zA G (d + 6) mX11_catchers 19 [some (.ref 0), some (.int 0), some (.int 0), none, none, none] [] (zh b I1 L) R)) :
    zA G (d + 6) mX11_catchers 0 [some (.ref 0), none, none, none, none, none] [] (zh b I L) R := by
  refine zi_aload_n dX11_catchers_0 rfl rfl ?_
  refine zg_getF (k := 5) (v := .ref 43) dX11_catchers_1 zc11 rfl (Nat.le_of_ble_eq_true rfl) (Nat.le_of_ble_eq_true rfl) u_249 rfl (rfl) ?_
  refine zi_aload_n dX11_catchers_4 rfl rfl ?_
  refine zg_getF (k := 0) (v := .ref b) dX11_catchers_5 zc11 rfl (Nat.le_of_ble_eq_true rfl) (Nat.le_of_ble_eq_true rfl) u_244 rfl (rfl) ?_
  refine zi_aload_n dX11_catchers_8 rfl rfl ?_
  refine zg_getF (k := 4) (v := .ref 37) dX11_catchers_9 zc11 rfl (Nat.le_of_ble_eq_true rfl) (Nat.le_of_ble_eq_true rfl) u_248 rfl (rfl) ?_
  obtain ⟨I1, h2, K⟩ := K
  refine zi_callV (N := mX10_followAll) (av := [.ref b, .ref 37]) (st := []) (R1 := (none, zh b I1 L)) dX11_catchers_12 okX10_followAll u_609 u_610 u_611 zc10 (rfl) (Nat.le_of_ble_eq_true rfl) arX10_followAll rfl (Nat.le_of_ble_eq_true rfl) (h2) hR ?_
  show zA G (d + 6) mX11_catchers 15 [some (.ref 0), none, none, none, none, none] [] (zh b I1 L) R
  refine zi_iconst (v := 0) dX11_catchers_15 (by decide) ?_
  refine zi_istore_n (ls' := [some (.ref 0), some (.int 0), none, none, none, none]) dX11_catchers_16 rfl (by decide) rfl ?_
  refine zi_iconst (v := 0) dX11_catchers_17 (by decide) ?_
  refine zi_istore_n (ls' := [some (.ref 0), some (.int 0), some (.int 0), none, none, none]) dX11_catchers_18 rfl (by decide) rfl ?_
  exact K
set_option maxRecDepth 100000 in
theorem tX11_catchers_19 {G : zG} {d b : Nat} {I : Nat → Nat → Int32} {L : Nat → Nat → Int64} {R : zR} {x1 : Int32} {x2 : Int32} (hb : zbl b) (hR : zR0 R)
    (K : (((I b 2) ≤ x2 → zA G (d + 6) mX11_catchers 77 [some (.ref 0), some (.int x1), some (.int ((1 <<< ((I b 1) &&& 31)) - 1)), some (.int ((1 <<< ((I b 1) &&& 31)) - 1)), some (.int ((1 <<< ((I b 1) &&& 31)) - 1)), none] [] (zh b I L) R) ∧ (¬ (I b 2) ≤ x2 → (vp_in ((x2 * 9) + (I b 0)) 54 ∧ zA G (d + 6) mX11_catchers 19 [some (.ref 0), some (.int (x1 ||| (1 <<< ((I 44 (zx ((x2 * 9) + (I b 0)))) &&& 31)))), some (.int (x2 + 1)), none, none, none] [] (zh b I L) R)))) :
    zA G (d + 6) mX11_catchers 19 [some (.ref 0), some (.int x1), some (.int x2), none, none, none] [] (zh b I L) R := by
  refine zi_iload_n dX11_catchers_19 rfl rfl ?_
  refine zi_aload_n dX11_catchers_20 rfl rfl ?_
  refine zg_getF (k := 0) (v := .ref b) dX11_catchers_21 zc11 rfl (Nat.le_of_ble_eq_true rfl) (Nat.le_of_ble_eq_true rfl) u_244 rfl (rfl) ?_
  refine zg_getI (k := 2) dX11_catchers_24 zc4 hb.hl.sh hb.hl.l0 (Nat.le_of_ble_eq_true rfl) u_48 rfl ?_
  refine zi_icmp_ge (tgt := 60) dX11_catchers_27 (by decide) (fun c1 => ?_) (fun c1 => ?_)
  · have K := K.1 c1
    refine zi_iconst (v := 1) dX11_catchers_60 (by decide) ?_
    refine zi_aload_n dX11_catchers_61 rfl rfl ?_
    refine zg_getF (k := 0) (v := .ref b) dX11_catchers_62 zc11 rfl (Nat.le_of_ble_eq_true rfl) (Nat.le_of_ble_eq_true rfl) u_244 rfl (rfl) ?_
    refine zg_getI (k := 1) dX11_catchers_65 zc4 hb.hl.sh hb.hl.l0 (Nat.le_of_ble_eq_true rfl) u_44 rfl ?_
    refine zi_ishl dX11_catchers_68 ?_
    refine zi_iconst (v := 1) dX11_catchers_69 (by decide) ?_
    refine zi_isub dX11_catchers_70 ?_
    refine zi_istore_n (ls' := [some (.ref 0), some (.int x1), some (.int ((1 <<< ((I b 1) &&& 31)) - 1)), none, none, none]) dX11_catchers_71 rfl (by decide) rfl ?_
    refine zi_iload_n dX11_catchers_72 rfl rfl ?_
    refine zi_istore_n (ls' := [some (.ref 0), some (.int x1), some (.int ((1 <<< ((I b 1) &&& 31)) - 1)), some (.int ((1 <<< ((I b 1) &&& 31)) - 1)), none, none]) dX11_catchers_73 rfl (by decide) rfl ?_
    refine zi_iload_n dX11_catchers_74 rfl rfl ?_
    refine zi_istore (ls' := [some (.ref 0), some (.int x1), some (.int ((1 <<< ((I b 1) &&& 31)) - 1)), some (.int ((1 <<< ((I b 1) &&& 31)) - 1)), some (.int ((1 <<< ((I b 1) &&& 31)) - 1)), none]) dX11_catchers_75 (by decide) rfl ?_
    exact K
  · have K := K.2 c1
    refine zi_iload_n dX11_catchers_30 rfl rfl ?_
    refine zi_iconst (v := 1) dX11_catchers_31 (by decide) ?_
    refine zi_aload_n dX11_catchers_32 rfl rfl ?_
    refine zg_getF (k := 5) (v := .ref 43) dX11_catchers_33 zc11 rfl (Nat.le_of_ble_eq_true rfl) (Nat.le_of_ble_eq_true rfl) u_249 rfl (rfl) ?_
    refine zg_getF (k := 0) (v := .ref 44) dX11_catchers_36 zc10 rfl (Nat.le_of_ble_eq_true rfl) (Nat.le_of_ble_eq_true rfl) u_173 rfl (rfl) ?_
    refine zi_iload_n dX11_catchers_39 rfl rfl ?_
    refine zi_aload_n dX11_catchers_40 rfl rfl ?_
    refine zg_getF (k := 0) (v := .ref b) dX11_catchers_41 zc11 rfl (Nat.le_of_ble_eq_true rfl) (Nat.le_of_ble_eq_true rfl) u_244 rfl (rfl) ?_
    refine zg_getI (k := 0) dX11_catchers_44 zc4 hb.hl.sh hb.hl.l0 (Nat.le_of_ble_eq_true rfl) u_41 rfl ?_
    refine zi_callS (N := mX11_onWay) (av := [.int x2, .int (I b 0)]) (st := [.ref 44, .int 1, .int x1]) (R1 := (some (.int ((x2 * 9) + (I b 0))), zh b I L)) dX11_catchers_47 okX11_onWay u_557 u_516 arX11_onWay rfl (Nat.le_of_ble_eq_true rfl) (kX11_onWay _ _) hR ?_
    show zA G (d + 6) mX11_catchers 50 [some (.ref 0), some (.int x1), some (.int x2), none, none, none] [.int ((x2 * 9) + (I b 0)), .ref 44, .int 1, .int x1] (zh b I L) R
    have o2 := K.1
    have K := K.2
    refine zg_iaload dX11_catchers_50 (rfl) (Nat.le_of_ble_eq_true rfl) o2 ?_
    refine zi_ishl dX11_catchers_51 ?_
    refine zi_ior dX11_catchers_52 ?_
    refine zi_istore_n (ls' := [some (.ref 0), some (.int (x1 ||| (1 <<< ((I 44 (zx ((x2 * 9) + (I b 0)))) &&& 31)))), some (.int x2), none, none, none]) dX11_catchers_53 rfl (by decide) rfl ?_
    refine zi_iinc (v := x2 + 1) (ls' := [some (.ref 0), some (.int (x1 ||| (1 <<< ((I 44 (zx ((x2 * 9) + (I b 0)))) &&& 31)))), some (.int (x2 + 1)), none, none, none]) dX11_catchers_54 rfl (by decide) rfl rfl ?_
    refine zi_goto (tgt := 19) dX11_catchers_57 (by decide) ?_
    exact K
set_option maxRecDepth 100000 in
theorem tX11_catchers_77 {G : zG} {d b : Nat} {I : Nat → Nat → Int32} {L : Nat → Nat → Int64} {R : zR} {x1 : Int32} {x2 : Int32} {x3 : Int32} {x4 : Int32} (hR : zR0 R)
    (K : ((x4 < 0 → R = (some (.int x3), zh b I L)) ∧ (¬ x4 < 0 → ((¬ (x1 &&& (((x4 ||| (x4 <<< (1 &&& 31))) ||| (x4 >>> (1 &&& 31))) ^^^ (-1))) = 0 → zA G (d + 6) mX11_catchers 77 [some (.ref 0), some (.int x1), some (.int x2), some (.int x3), some (.int (x4 + (-1))), none] [] (zh b I L) R) ∧ ((x1 &&& (((x4 ||| (x4 <<< (1 &&& 31))) ||| (x4 >>> (1 &&& 31))) ^^^ (-1))) = 0 → (∃ (r3 : Int32), zCall (d + 5) mJ6_bitCount_0f7a4 [.int x4] (zh b I L) (some (.int r3), zh b I L) ∧ (∃ (r5 : Int32), zCall (d + 5) mJ6_bitCount_0f7a4 [.int x3] (zh b I L) (some (.int r5), zh b I L) ∧ ((r5 < r3 → zA G (d + 6) mX11_catchers 77 [some (.ref 0), some (.int x1), some (.int x2), some (.int x3), some (.int (x4 + (-1))), none] [] (zh b I L) R) ∧ (¬ r5 < r3 → zA G (d + 6) mX11_catchers 77 [some (.ref 0), some (.int x1), some (.int x2), some (.int x4), some (.int (x4 + (-1))), none] [] (zh b I L) R))))))))) :
    zA G (d + 6) mX11_catchers 77 [some (.ref 0), some (.int x1), some (.int x2), some (.int x3), some (.int x4), none] [] (zh b I L) R := by
  refine zi_iload dX11_catchers_77 rfl ?_
  refine zi_if_lt (tgt := 126) dX11_catchers_79 (by decide) (fun c1 => ?_) (fun c1 => ?_)
  · have K := K.1 c1
    refine zi_iload_n dX11_catchers_126 rfl rfl ?_
    subst K
    exact zi_ireturn dX11_catchers_127 rfl rfl
  · have K := K.2 c1
    refine zi_iload dX11_catchers_82 rfl ?_
    refine zi_iload dX11_catchers_84 rfl ?_
    refine zi_iconst (v := 1) dX11_catchers_86 (by decide) ?_
    refine zi_ishl dX11_catchers_87 ?_
    refine zi_ior dX11_catchers_88 ?_
    refine zi_iload dX11_catchers_89 rfl ?_
    refine zi_iconst (v := 1) dX11_catchers_91 (by decide) ?_
    refine zi_ishr dX11_catchers_92 ?_
    refine zi_ior dX11_catchers_93 ?_
    refine zi_istore (ls' := [some (.ref 0), some (.int x1), some (.int x2), some (.int x3), some (.int x4), some (.int ((x4 ||| (x4 <<< (1 &&& 31))) ||| (x4 >>> (1 &&& 31))))]) dX11_catchers_94 (by decide) rfl ?_
    refine zi_iload_n dX11_catchers_96 rfl rfl ?_
    refine zi_iload dX11_catchers_97 rfl ?_
    refine zi_iconst (v := (-1)) dX11_catchers_99 (by decide) ?_
    refine zi_ixor dX11_catchers_100 ?_
    refine zi_iand dX11_catchers_101 ?_
    refine zi_if_ne (tgt := 120) dX11_catchers_102 (by decide) (fun c2 => ?_) (fun c2 => ?_)
    · have K := K.1 c2
      refine zi_iinc (v := x4 + (-1)) (ls' := [some (.ref 0), some (.int x1), some (.int x2), some (.int x3), some (.int (x4 + (-1))), some (.int ((x4 ||| (x4 <<< (1 &&& 31))) ||| (x4 >>> (1 &&& 31))))]) dX11_catchers_120 rfl (by decide) rfl rfl ?_
      refine zi_goto (tgt := 77) dX11_catchers_123 (by decide) ?_
      refine zi_mask [true, true, true, true, true, false] rfl ?_
      exact K
    · have K := K.2 c2
      refine zi_iload dX11_catchers_105 rfl ?_
      obtain ⟨r3, h4, K⟩ := K
      refine zi_callS (N := mJ6_bitCount_0f7a4) (av := [.int x4]) (st := []) (R1 := (some (.int r3), zh b I L)) dX11_catchers_107 okJ6_bitCount_0f7a4 u_676 u_677 arJ6_bitCount_0f7a4 rfl (Nat.le_of_ble_eq_true rfl) (h4) hR ?_
      show zA G (d + 6) mX11_catchers 110 [some (.ref 0), some (.int x1), some (.int x2), some (.int x3), some (.int x4), some (.int ((x4 ||| (x4 <<< (1 &&& 31))) ||| (x4 >>> (1 &&& 31))))] [.int r3] (zh b I L) R
      refine zi_iload_n dX11_catchers_110 rfl rfl ?_
      obtain ⟨r5, h6, K⟩ := K
      refine zi_callS (N := mJ6_bitCount_0f7a4) (av := [.int x3]) (st := [.int r3]) (R1 := (some (.int r5), zh b I L)) dX11_catchers_111 okJ6_bitCount_0f7a4 u_676 u_677 arJ6_bitCount_0f7a4 rfl (Nat.le_of_ble_eq_true rfl) (h6) hR ?_
      show zA G (d + 6) mX11_catchers 114 [some (.ref 0), some (.int x1), some (.int x2), some (.int x3), some (.int x4), some (.int ((x4 ||| (x4 <<< (1 &&& 31))) ||| (x4 >>> (1 &&& 31))))] [.int r5, .int r3] (zh b I L) R
      refine zi_icmp_gt (tgt := 120) dX11_catchers_114 (by decide) (fun c7 => ?_) (fun c7 => ?_)
      · have K := K.1 c7
        refine zi_iinc (v := x4 + (-1)) (ls' := [some (.ref 0), some (.int x1), some (.int x2), some (.int x3), some (.int (x4 + (-1))), some (.int ((x4 ||| (x4 <<< (1 &&& 31))) ||| (x4 >>> (1 &&& 31))))]) dX11_catchers_120 rfl (by decide) rfl rfl ?_
        refine zi_goto (tgt := 77) dX11_catchers_123 (by decide) ?_
        refine zi_mask [true, true, true, true, true, false] rfl ?_
        exact K
      · have K := K.2 c7
        refine zi_iload dX11_catchers_117 rfl ?_
        refine zi_istore_n (ls' := [some (.ref 0), some (.int x1), some (.int x2), some (.int x4), some (.int x4), some (.int ((x4 ||| (x4 <<< (1 &&& 31))) ||| (x4 >>> (1 &&& 31))))]) dX11_catchers_119 rfl (by decide) rfl ?_
        refine zi_iinc (v := x4 + (-1)) (ls' := [some (.ref 0), some (.int x1), some (.int x2), some (.int x4), some (.int (x4 + (-1))), some (.int ((x4 ||| (x4 <<< (1 &&& 31))) ||| (x4 >>> (1 &&& 31))))]) dX11_catchers_120 rfl (by decide) rfl rfl ?_
        refine zi_goto (tgt := 77) dX11_catchers_123 (by decide) ?_
        refine zi_mask [true, true, true, true, true, false] rfl ?_
        exact K
set_option maxRecDepth 100000 in
theorem tX11_bale_0 {G : zG} {d b : Nat} {I : Nat → Nat → Int32} {L : Nat → Nat → Int64} {R : zR}  (hR : zR0 R)
    (K : (∃ (r1 : Int32) (I2 : Nat → Nat → Int32), zCall (d + 5) mX11_harmOfAll [.ref 0] (zh b I L) (some (.int r1), zh b I2 L) ∧ zA G (d + 6) mX11_bale 9 [some (.ref 0), some (.int r1), some (.int (-1)), some (.int 0), none, none, none] [] (zh b I2 L) R)) :
    zA G (d + 6) mX11_bale 0 [some (.ref 0), none, none, none, none, none, none] [] (zh b I L) R := by
  refine zi_aload_n dX11_bale_0 rfl rfl ?_
  obtain ⟨r1, I2, h3, K⟩ := K
  refine zi_callV (N := mX11_harmOfAll) (av := []) (st := []) (R1 := (some (.int r1), zh b I2 L)) dX11_bale_1 okX11_harmOfAll u_686 u_688 s_18 zc11 (rfl) (Nat.le_of_ble_eq_true rfl) arX11_harmOfAll rfl (Nat.le_of_ble_eq_true rfl) (h3) hR ?_
  show zA G (d + 6) mX11_bale 4 [some (.ref 0), none, none, none, none, none, none] [.int r1] (zh b I2 L) R
  refine zi_istore_n (ls' := [some (.ref 0), some (.int r1), none, none, none, none, none]) dX11_bale_4 rfl (by decide) rfl ?_
  refine zi_iconst (v := (-1)) dX11_bale_5 (by decide) ?_
  refine zi_istore_n (ls' := [some (.ref 0), some (.int r1), some (.int (-1)), none, none, none, none]) dX11_bale_6 rfl (by decide) rfl ?_
  refine zi_iconst (v := 0) dX11_bale_7 (by decide) ?_
  refine zi_istore_n (ls' := [some (.ref 0), some (.int r1), some (.int (-1)), some (.int 0), none, none, none]) dX11_bale_8 rfl (by decide) rfl ?_
  exact K
set_option maxRecDepth 100000 in
theorem tX11_bale_9 {G : zG} {d b : Nat} {I : Nat → Nat → Int32} {L : Nat → Nat → Int64} {R : zR} {x1 : Int32} {x2 : Int32} {x3 : Int32} (hb : zbl b)
    (K : (((I b 0) ≤ x3 → R = (some (.int x2), zh b I L)) ∧ (¬ (I b 0) ≤ x3 → zA G (d + 6) mX11_bale 23 [some (.ref 0), some (.int x1), some (.int x2), some (.int x3), some (.int 0), none, none] [] (zh b I L) R))) :
    zA G (d + 6) mX11_bale 9 [some (.ref 0), some (.int x1), some (.int x2), some (.int x3), none, none, none] [] (zh b I L) R := by
  refine zi_iload_n dX11_bale_9 rfl rfl ?_
  refine zi_aload_n dX11_bale_10 rfl rfl ?_
  refine zg_getF (k := 0) (v := .ref b) dX11_bale_11 zc11 rfl (Nat.le_of_ble_eq_true rfl) (Nat.le_of_ble_eq_true rfl) u_244 rfl (rfl) ?_
  refine zg_getI (k := 0) dX11_bale_14 zc4 hb.hl.sh hb.hl.l0 (Nat.le_of_ble_eq_true rfl) u_41 rfl ?_
  refine zi_icmp_ge (tgt := 117) dX11_bale_17 (by decide) (fun c1 => ?_) (fun c1 => ?_)
  · have K := K.1 c1
    refine zi_iload_n dX11_bale_117 rfl rfl ?_
    subst K
    exact zi_ireturn dX11_bale_118 rfl rfl
  · have K := K.2 c1
    refine zi_iconst (v := 0) dX11_bale_20 (by decide) ?_
    refine zi_istore (ls' := [some (.ref 0), some (.int x1), some (.int x2), some (.int x3), some (.int 0), none, none]) dX11_bale_21 (by decide) rfl ?_
    exact K
set_option maxRecDepth 100000 in
theorem tX11_bale_23 {G : zG} {d b : Nat} {I : Nat → Nat → Int32} {L : Nat → Nat → Int64} {R : zR} {x1 : Int32} {x2 : Int32} {x3 : Int32} {x4 : Int32} (hb : zbl b) (hR : zR0 R)
    (K : (((I b 1) ≤ x4 → zA G (d + 6) mX11_bale 9 [some (.ref 0), some (.int x1), some (.int x2), some (.int (x3 + 1)), none, none, none] [] (zh b I L) R) ∧ (¬ (I b 1) ≤ x4 → (vp_in ((x3 * 6) + x4) 48 ∧ (vp_in ((x3 * 6) + x4) 48 ∧ (∃ (r4 : Int32) (I5 : Nat → Nat → Int32), zCall (d + 5) mX11_harmOfAll [.ref 0] (zh b (zup I (b + 2) (zx ((x3 * 6) + x4)) 3) L) (some (.int r4), zh b I5 L) ∧ (vp_in ((x3 * 6) + x4) 48 ∧ ((x1 ≤ r4 → zA G (d + 6) mX11_bale 23 [some (.ref 0), some (.int x1), some (.int x2), some (.int x3), some (.int (x4 + 1)), none, none] [] (zh b (zup I5 (b + 2) (zx ((x3 * 6) + x4)) (I (b + 2) (zx ((x3 * 6) + x4)))) L) R) ∧ (¬ x1 ≤ r4 → zA G (d + 6) mX11_bale 23 [some (.ref 0), some (.int r4), some (.int ((10 * x3) + x4)), some (.int x3), some (.int (x4 + 1)), none, none] [] (zh b (zup I5 (b + 2) (zx ((x3 * 6) + x4)) (I (b + 2) (zx ((x3 * 6) + x4)))) L) R))))))))) :
    zA G (d + 6) mX11_bale 23 [some (.ref 0), some (.int x1), some (.int x2), some (.int x3), some (.int x4), none, none] [] (zh b I L) R := by
  refine zi_iload dX11_bale_23 rfl ?_
  refine zi_aload_n dX11_bale_25 rfl rfl ?_
  refine zg_getF (k := 0) (v := .ref b) dX11_bale_26 zc11 rfl (Nat.le_of_ble_eq_true rfl) (Nat.le_of_ble_eq_true rfl) u_244 rfl (rfl) ?_
  refine zg_getI (k := 1) dX11_bale_29 zc4 hb.hl.sh hb.hl.l0 (Nat.le_of_ble_eq_true rfl) u_44 rfl ?_
  refine zi_icmp_ge (tgt := 111) dX11_bale_32 (by decide) (fun c1 => ?_) (fun c1 => ?_)
  · have K := K.1 c1
    refine zi_iinc (v := x3 + 1) (ls' := [some (.ref 0), some (.int x1), some (.int x2), some (.int (x3 + 1)), some (.int x4), none, none]) dX11_bale_111 rfl (by decide) rfl rfl ?_
    refine zi_goto (tgt := 9) dX11_bale_114 (by decide) ?_
    refine zi_mask [true, true, true, true, false, true, true] rfl ?_
    exact K
  · have K := K.2 c1
    refine zi_aload_n dX11_bale_35 rfl rfl ?_
    refine zg_getF (k := 0) (v := .ref b) dX11_bale_36 zc11 rfl (Nat.le_of_ble_eq_true rfl) (Nat.le_of_ble_eq_true rfl) u_244 rfl (rfl) ?_
    refine zg_getF (k := 6) (v := .ref (b + 2)) dX11_bale_39 zc4 hb.hl.sh hb.hl.l0 (Nat.le_of_ble_eq_true rfl) u_63 rfl (hb.hl.f6) ?_
    refine zi_iload_n dX11_bale_42 rfl rfl ?_
    refine zi_iload dX11_bale_43 rfl ?_
    refine zi_callS (N := mX11_cell) (av := [.int x3, .int x4]) (st := [.ref (b + 2)]) (R1 := (some (.int ((x3 * 6) + x4)), zh b I L)) dX11_bale_45 okX11_cell u_314 u_315 arX11_cell rfl (Nat.le_of_ble_eq_true rfl) (kX11_cell _ _) hR ?_
    show zA G (d + 6) mX11_bale 48 [some (.ref 0), some (.int x1), some (.int x2), some (.int x3), some (.int x4), none, none] [.int ((x3 * 6) + x4), .ref (b + 2)] (zh b I L) R
    have o2 := K.1
    have K := K.2
    refine zg_iaload dX11_bale_48 (hb.hl.s2) (hb.hl.lt 2 (Nat.le_of_ble_eq_true rfl)) o2 ?_
    refine zi_istore (ls' := [some (.ref 0), some (.int x1), some (.int x2), some (.int x3), some (.int x4), some (.int (I (b + 2) (zx ((x3 * 6) + x4)))), none]) dX11_bale_49 (by decide) rfl ?_
    refine zi_aload_n dX11_bale_51 rfl rfl ?_
    refine zg_getF (k := 0) (v := .ref b) dX11_bale_52 zc11 rfl (Nat.le_of_ble_eq_true rfl) (Nat.le_of_ble_eq_true rfl) u_244 rfl (rfl) ?_
    refine zg_getF (k := 6) (v := .ref (b + 2)) dX11_bale_55 zc4 hb.hl.sh hb.hl.l0 (Nat.le_of_ble_eq_true rfl) u_63 rfl (hb.hl.f6) ?_
    refine zi_iload_n dX11_bale_58 rfl rfl ?_
    refine zi_iload dX11_bale_59 rfl ?_
    refine zi_callS (N := mX11_cell) (av := [.int x3, .int x4]) (st := [.ref (b + 2)]) (R1 := (some (.int ((x3 * 6) + x4)), zh b I L)) dX11_bale_61 okX11_cell u_314 u_315 arX11_cell rfl (Nat.le_of_ble_eq_true rfl) (kX11_cell _ _) hR ?_
    show zA G (d + 6) mX11_bale 64 [some (.ref 0), some (.int x1), some (.int x2), some (.int x3), some (.int x4), some (.int (I (b + 2) (zx ((x3 * 6) + x4)))), none] [.int ((x3 * 6) + x4), .ref (b + 2)] (zh b I L) R
    refine zi_iconst (v := 3) dX11_bale_64 (by decide) ?_
    have o3 := K.1
    have K := K.2
    refine zg_iastore dX11_bale_65 (hb.hl.s2) (hb.hl.lt 2 (Nat.le_of_ble_eq_true rfl)) o3 ?_
    refine zi_aload_n dX11_bale_66 rfl rfl ?_
    obtain ⟨r4, I5, h6, K⟩ := K
    refine zi_callV (N := mX11_harmOfAll) (av := []) (st := []) (R1 := (some (.int r4), zh b I5 L)) dX11_bale_67 okX11_harmOfAll u_686 u_688 s_18 zc11 (rfl) (Nat.le_of_ble_eq_true rfl) arX11_harmOfAll rfl (Nat.le_of_ble_eq_true rfl) (h6) hR ?_
    show zA G (d + 6) mX11_bale 70 [some (.ref 0), some (.int x1), some (.int x2), some (.int x3), some (.int x4), some (.int (I (b + 2) (zx ((x3 * 6) + x4)))), none] [.int r4] (zh b I5 L) R
    refine zi_istore (ls' := [some (.ref 0), some (.int x1), some (.int x2), some (.int x3), some (.int x4), some (.int (I (b + 2) (zx ((x3 * 6) + x4)))), some (.int r4)]) dX11_bale_70 (by decide) rfl ?_
    refine zi_aload_n dX11_bale_72 rfl rfl ?_
    refine zg_getF (k := 0) (v := .ref b) dX11_bale_73 zc11 rfl (Nat.le_of_ble_eq_true rfl) (Nat.le_of_ble_eq_true rfl) u_244 rfl (rfl) ?_
    refine zg_getF (k := 6) (v := .ref (b + 2)) dX11_bale_76 zc4 hb.hl.sh hb.hl.l0 (Nat.le_of_ble_eq_true rfl) u_63 rfl (hb.hl.f6) ?_
    refine zi_iload_n dX11_bale_79 rfl rfl ?_
    refine zi_iload dX11_bale_80 rfl ?_
    refine zi_callS (N := mX11_cell) (av := [.int x3, .int x4]) (st := [.ref (b + 2)]) (R1 := (some (.int ((x3 * 6) + x4)), zh b I5 L)) dX11_bale_82 okX11_cell u_314 u_315 arX11_cell rfl (Nat.le_of_ble_eq_true rfl) (kX11_cell _ _) hR ?_
    show zA G (d + 6) mX11_bale 85 [some (.ref 0), some (.int x1), some (.int x2), some (.int x3), some (.int x4), some (.int (I (b + 2) (zx ((x3 * 6) + x4)))), some (.int r4)] [.int ((x3 * 6) + x4), .ref (b + 2)] (zh b I5 L) R
    refine zi_iload dX11_bale_85 rfl ?_
    have o7 := K.1
    have K := K.2
    refine zg_iastore dX11_bale_87 (hb.hl.s2) (hb.hl.lt 2 (Nat.le_of_ble_eq_true rfl)) o7 ?_
    refine zi_iload dX11_bale_88 rfl ?_
    refine zi_iload_n dX11_bale_90 rfl rfl ?_
    refine zi_icmp_ge (tgt := 105) dX11_bale_91 (by decide) (fun c8 => ?_) (fun c8 => ?_)
    · have K := K.1 c8
      refine zi_iinc (v := x4 + 1) (ls' := [some (.ref 0), some (.int x1), some (.int x2), some (.int x3), some (.int (x4 + 1)), some (.int (I (b + 2) (zx ((x3 * 6) + x4)))), some (.int r4)]) dX11_bale_105 rfl (by decide) rfl rfl ?_
      refine zi_goto (tgt := 23) dX11_bale_108 (by decide) ?_
      refine zi_mask [true, true, true, true, true, false, false] rfl ?_
      exact K
    · have K := K.2 c8
      refine zi_iload dX11_bale_94 rfl ?_
      refine zi_istore_n (ls' := [some (.ref 0), some (.int r4), some (.int x2), some (.int x3), some (.int x4), some (.int (I (b + 2) (zx ((x3 * 6) + x4)))), some (.int r4)]) dX11_bale_96 rfl (by decide) rfl ?_
      refine zi_bipush (v := 10) dX11_bale_97 (by decide) ?_
      refine zi_iload_n dX11_bale_99 rfl rfl ?_
      refine zi_imul dX11_bale_100 ?_
      refine zi_iload dX11_bale_101 rfl ?_
      refine zi_iadd dX11_bale_103 ?_
      refine zi_istore_n (ls' := [some (.ref 0), some (.int r4), some (.int ((10 * x3) + x4)), some (.int x3), some (.int x4), some (.int (I (b + 2) (zx ((x3 * 6) + x4)))), some (.int r4)]) dX11_bale_104 rfl (by decide) rfl ?_
      refine zi_iinc (v := x4 + 1) (ls' := [some (.ref 0), some (.int r4), some (.int ((10 * x3) + x4)), some (.int x3), some (.int (x4 + 1)), some (.int (I (b + 2) (zx ((x3 * 6) + x4)))), some (.int r4)]) dX11_bale_105 rfl (by decide) rfl rfl ?_
      refine zi_goto (tgt := 23) dX11_bale_108 (by decide) ?_
      refine zi_mask [true, true, true, true, true, false, false] rfl ?_
      exact K
set_option maxRecDepth 100000 in
theorem tX11_run_0 {G : zG} {d b : Nat} {I : Nat → Nat → Int32} {L : Nat → Nat → Int64} {R : zR}  (hb : zbl b) (hR : zR0 R)
    (K : ((¬ (I b 2) = 0 → (∃ (I2 : Nat → Nat → Int32), zCall (d + 5) mX10_followAll [.ref 43, .ref b, .ref 37] (zh b I L) (none, zh b I2 L) ∧ (∃ (r4 : Int32), zCall (d + 5) mX11_runnerInPlace [.ref 0, .int 0] (zh b I2 L) (some (.int r4), zh b I2 L) ∧ (∃ (I6 : Nat → Nat → Int32), zCall (d + 5) mX4_keepSlopes [.ref b] (zh b I2 L) (none, zh b I6 L) ∧ (∃ (I8 : Nat → Nat → Int32), zCall (d + 5) mX11_wearSlopes [.ref 0] (zh b I6 L) (none, zh b I8 L) ∧ R = (some (.int r4), zh b I8 L)))))) ∧ ((I b 2) = 0 → (∃ (r10 : Int32) (I11 : Nat → Nat → Int32), zCall (d + 5) mX11_refuseNo [.ref 0, .int (-3)] (zh b I L) (some (.int r10), zh b I11 L) ∧ R = (some (.int r10), zh b I11 L))))) :
    zA G (d + 6) mX11_run 0 [some (.ref 0), none] [] (zh b I L) R := by
  refine zi_aload_n dX11_run_0 rfl rfl ?_
  refine zg_getF (k := 0) (v := .ref b) dX11_run_1 zc11 rfl (Nat.le_of_ble_eq_true rfl) (Nat.le_of_ble_eq_true rfl) u_244 rfl (rfl) ?_
  refine zg_getI (k := 2) dX11_run_4 zc4 hb.hl.sh hb.hl.l0 (Nat.le_of_ble_eq_true rfl) u_48 rfl ?_
  refine zi_if_ne (tgt := 17) dX11_run_7 (by decide) (fun c1 => ?_) (fun c1 => ?_)
  · have K := K.1 c1
    refine zi_aload_n dX11_run_17 rfl rfl ?_
    refine zg_getF (k := 5) (v := .ref 43) dX11_run_18 zc11 rfl (Nat.le_of_ble_eq_true rfl) (Nat.le_of_ble_eq_true rfl) u_249 rfl (rfl) ?_
    refine zi_aload_n dX11_run_21 rfl rfl ?_
    refine zg_getF (k := 0) (v := .ref b) dX11_run_22 zc11 rfl (Nat.le_of_ble_eq_true rfl) (Nat.le_of_ble_eq_true rfl) u_244 rfl (rfl) ?_
    refine zi_aload_n dX11_run_25 rfl rfl ?_
    refine zg_getF (k := 4) (v := .ref 37) dX11_run_26 zc11 rfl (Nat.le_of_ble_eq_true rfl) (Nat.le_of_ble_eq_true rfl) u_248 rfl (rfl) ?_
    obtain ⟨I2, h3, K⟩ := K
    refine zi_callV (N := mX10_followAll) (av := [.ref b, .ref 37]) (st := []) (R1 := (none, zh b I2 L)) dX11_run_29 okX10_followAll u_609 u_610 u_611 zc10 (rfl) (Nat.le_of_ble_eq_true rfl) arX10_followAll rfl (Nat.le_of_ble_eq_true rfl) (h3) hR ?_
    show zA G (d + 6) mX11_run 32 [some (.ref 0), none] [] (zh b I2 L) R
    refine zi_aload_n dX11_run_32 rfl rfl ?_
    refine zi_iconst (v := 0) dX11_run_33 (by decide) ?_
    obtain ⟨r4, h5, K⟩ := K
    refine zi_callV (N := mX11_runnerInPlace) (av := [.int 0]) (st := []) (R1 := (some (.int r4), zh b I2 L)) dX11_run_34 okX11_runnerInPlace u_614 u_616 s_15 zc11 (rfl) (Nat.le_of_ble_eq_true rfl) arX11_runnerInPlace rfl (Nat.le_of_ble_eq_true rfl) (h5) hR ?_
    show zA G (d + 6) mX11_run 37 [some (.ref 0), none] [.int r4] (zh b I2 L) R
    refine zi_istore_n (ls' := [some (.ref 0), some (.int r4)]) dX11_run_37 rfl (by decide) rfl ?_
    refine zi_aload_n dX11_run_38 rfl rfl ?_
    refine zg_getF (k := 0) (v := .ref b) dX11_run_39 zc11 rfl (Nat.le_of_ble_eq_true rfl) (Nat.le_of_ble_eq_true rfl) u_244 rfl (rfl) ?_
    obtain ⟨I6, h7, K⟩ := K
    refine zi_callV (N := mX4_keepSlopes) (av := []) (st := []) (R1 := (none, zh b I6 L)) dX11_run_42 okX4_keepSlopes u_698 u_699 u_700 zc4 (hb.hl.sh) hb.hl.l0 arX4_keepSlopes rfl (Nat.le_of_ble_eq_true rfl) (h7) hR ?_
    show zA G (d + 6) mX11_run 45 [some (.ref 0), some (.int r4)] [] (zh b I6 L) R
    refine zi_aload_n dX11_run_45 rfl rfl ?_
    obtain ⟨I8, h9, K⟩ := K
    refine zi_callV (N := mX11_wearSlopes) (av := []) (st := []) (R1 := (none, zh b I8 L)) dX11_run_46 okX11_wearSlopes u_703 u_705 s_20 zc11 (rfl) (Nat.le_of_ble_eq_true rfl) arX11_wearSlopes rfl (Nat.le_of_ble_eq_true rfl) (h9) hR ?_
    show zA G (d + 6) mX11_run 49 [some (.ref 0), some (.int r4)] [] (zh b I8 L) R
    refine zi_iload_n dX11_run_49 rfl rfl ?_
    subst K
    exact zi_ireturn dX11_run_50 rfl rfl
  · have K := K.2 c1
    refine zi_aload_n dX11_run_10 rfl rfl ?_
    refine zi_bipush (v := (-3)) dX11_run_11 (by decide) ?_
    obtain ⟨r10, I11, h12, K⟩ := K
    refine zi_callV (N := mX11_refuseNo) (av := [.int (-3)]) (st := []) (R1 := (some (.int r10), zh b I11 L)) dX11_run_13 okX11_refuseNo u_694 u_696 s_19 zc11 (rfl) (Nat.le_of_ble_eq_true rfl) arX11_refuseNo rfl (Nat.le_of_ble_eq_true rfl) (h12) hR ?_
    show zA G (d + 6) mX11_run 16 [some (.ref 0), none] [.int r10] (zh b I11 L) R
    subst K
    exact zi_ireturn dX11_run_16 rfl rfl
set_option maxRecDepth 100000 in
theorem tX11_undo_0 {G : zG} {d b : Nat} {I : Nat → Nat → Int32} {L : Nat → Nat → Int64} {R : zR}  (hb : zbl b) (hR : zR0 R)
    (K : ((¬ (I b 4) = 0 → (∃ (I2 : Nat → Nat → Int32), zCall (d + 1) mX4_bringSlopesBack [.ref b] (zh b I L) (none, zh b I2 L) ∧ R = (some (.int 1), zh b I2 L))) ∧ ((I b 4) = 0 → (∃ (r4 : Int32) (I5 : Nat → Nat → Int32), zCall (d + 1) mX11_refuseNo [.ref 0, .int (-3)] (zh b I L) (some (.int r4), zh b I5 L) ∧ R = (some (.int r4), zh b I5 L))))) :
    zA G (d + 2) mX11_undo 0 [some (.ref 0)] [] (zh b I L) R := by
  refine zi_aload_n dX11_undo_0 rfl rfl ?_
  refine zg_getF (k := 0) (v := .ref b) dX11_undo_1 zc11 rfl (Nat.le_of_ble_eq_true rfl) (Nat.le_of_ble_eq_true rfl) u_244 rfl (rfl) ?_
  refine zg_getI (k := 4) dX11_undo_4 zc4 hb.hl.sh hb.hl.l0 (Nat.le_of_ble_eq_true rfl) u_53 rfl ?_
  refine zi_if_ne (tgt := 17) dX11_undo_7 (by decide) (fun c1 => ?_) (fun c1 => ?_)
  · have K := K.1 c1
    refine zi_aload_n dX11_undo_17 rfl rfl ?_
    refine zg_getF (k := 0) (v := .ref b) dX11_undo_18 zc11 rfl (Nat.le_of_ble_eq_true rfl) (Nat.le_of_ble_eq_true rfl) u_244 rfl (rfl) ?_
    obtain ⟨I2, h3, K⟩ := K
    refine zi_callV (N := mX4_bringSlopesBack) (av := []) (st := []) (R1 := (none, zh b I2 L)) dX11_undo_21 okX4_bringSlopesBack u_716 u_717 u_718 zc4 (hb.hl.sh) hb.hl.l0 arX4_bringSlopesBack rfl (Nat.le_of_ble_eq_true rfl) (h3) hR ?_
    show zA G (d + 2) mX11_undo 24 [some (.ref 0)] [] (zh b I2 L) R
    refine zi_iconst (v := 1) dX11_undo_24 (by decide) ?_
    subst K
    exact zi_ireturn dX11_undo_25 rfl rfl
  · have K := K.2 c1
    refine zi_aload_n dX11_undo_10 rfl rfl ?_
    refine zi_bipush (v := (-3)) dX11_undo_11 (by decide) ?_
    obtain ⟨r4, I5, h6, K⟩ := K
    refine zi_callV (N := mX11_refuseNo) (av := [.int (-3)]) (st := []) (R1 := (some (.int r4), zh b I5 L)) dX11_undo_13 okX11_refuseNo u_694 u_696 s_19 zc11 (rfl) (Nat.le_of_ble_eq_true rfl) arX11_refuseNo rfl (Nat.le_of_ble_eq_true rfl) (h6) hR ?_
    show zA G (d + 2) mX11_undo 16 [some (.ref 0)] [.int r4] (zh b I5 L) R
    subst K
    exact zi_ireturn dX11_undo_16 rfl rfl
