/-! rows by program: X7_append, X7_readInto, X7_readHill, X7_readItem, X7_readCell, X7_readRunner, X7_readLine, X7_nextNumber, X7_nextIsSemicolon, X7_nextToken, X7_tokenBegunBy, X3_least, X3_stepIn, X3_bestStep, X3_leastFrom -/
set_option maxRecDepth 100000 in
theorem tX7_append_0 {G : zG} {d b : Nat} {I : Nat → Nat → Int32} {L : Nat → Nat → Int64} {R : zR} {x1 : Int64} {x3 : Int32}
    (K : zA G d mX7_append 5 [some (.ref 53), some (.long x1), none, some (.int x3), some (.int (x3 - 1))] [] (zh b I L) R) :
    zA G d mX7_append 0 [some (.ref 53), some (.long x1), none, some (.int x3), none] [] (zh b I L) R := by
  refine zi_iload_n dX7_append_0 rfl rfl ?_
  refine zi_iconst (v := 1) dX7_append_1 (by decide) ?_
  refine zi_isub dX7_append_2 ?_
  refine zi_istore (ls' := [some (.ref 53), some (.long x1), none, some (.int x3), some (.int (x3 - 1))]) dX7_append_3 (by decide) rfl ?_
  exact K
set_option maxRecDepth 100000 in
theorem tX7_append_5 {G : zG} {d b : Nat} {I : Nat → Nat → Int32} {L : Nat → Nat → Int64} {R : zR} {x1 : Int64} {x3 : Int32} {x4 : Int32}
    (K : ((x4 < 0 → R = (none, zh b I L)) ∧ (¬ x4 < 0 → ((250 ≤ (I 53 1) → R = (none, zh b I L)) ∧ (¬ 250 ≤ (I 53 1) → (vp_in (I 53 1) 250 ∧ (∀ I4 : Nat → Nat → Int32, I4 = (zup I 54 (zx (I 53 1)) ((((x1.toUInt64 >>> ((8 * x4).toInt64.toUInt64 &&& Int64.toUInt64 63)).toInt64) &&& 255).toInt32)) → zA G d mX7_append 5 [some (.ref 53), some (.long x1), none, some (.int x3), some (.int (x4 + (-1)))] [] (zh b (zup I4 53 1 (((zup I 54 (zx (I 53 1)) ((((x1.toUInt64 >>> ((8 * x4).toInt64.toUInt64 &&& Int64.toUInt64 63)).toInt64) &&& 255).toInt32)) 53 1) + 1)) L) R))))))) :
    zA G d mX7_append 5 [some (.ref 53), some (.long x1), none, some (.int x3), some (.int x4)] [] (zh b I L) R := by
  refine zi_iload dX7_append_5 rfl ?_
  refine zi_if_lt (tgt := 57) dX7_append_7 (by decide) (fun c1 => ?_) (fun c1 => ?_)
  · have K := K.1 c1
    subst K
    exact zi_return dX7_append_57 rfl
  · have K := K.2 c1
    refine zi_aload_n dX7_append_10 rfl rfl ?_
    refine zg_getI (k := 1) dX7_append_11 zc7 rfl (Nat.le_of_ble_eq_true rfl) (Nat.le_of_ble_eq_true rfl) u_220 rfl ?_
    refine zi_sipush (v := 250) dX7_append_14 (by decide) ?_
    refine zi_icmp_ge (tgt := 57) dX7_append_17 (by decide) (fun c2 => ?_) (fun c2 => ?_)
    · have K := K.1 c2
      subst K
      exact zi_return dX7_append_57 rfl
    · have K := K.2 c2
      refine zi_aload_n dX7_append_20 rfl rfl ?_
      refine zg_getF (k := 0) (v := .ref 54) dX7_append_21 zc7 rfl (Nat.le_of_ble_eq_true rfl) (Nat.le_of_ble_eq_true rfl) u_219 rfl (rfl) ?_
      refine zi_aload_n dX7_append_24 rfl rfl ?_
      refine zg_getI (k := 1) dX7_append_25 zc7 rfl (Nat.le_of_ble_eq_true rfl) (Nat.le_of_ble_eq_true rfl) u_220 rfl ?_
      refine zi_lload_n dX7_append_28 rfl rfl ?_
      refine zi_bipush (v := 8) dX7_append_29 (by decide) ?_
      refine zi_iload dX7_append_31 rfl ?_
      refine zi_imul dX7_append_33 ?_
      refine zi_lushr dX7_append_34 ?_
      refine zi_ldc2 dX7_append_35 u_354 ?_
      refine zi_land dX7_append_38 ?_
      refine zi_l2i dX7_append_39 ?_
      have o3 := K.1
      have K := K.2
      refine zg_iastore dX7_append_40 (rfl) (Nat.le_of_ble_eq_true rfl) o3 ?_
      refine zi_aload_n dX7_append_41 rfl rfl ?_
      refine zi_dup dX7_append_42 rfl ?_
      refine zg_getI (k := 1) dX7_append_43 zc7 rfl (Nat.le_of_ble_eq_true rfl) (Nat.le_of_ble_eq_true rfl) u_220 rfl ?_
      refine zi_iconst (v := 1) dX7_append_46 (by decide) ?_
      refine zi_iadd dX7_append_47 ?_
      refine zi_name (fun I4 hI4 => ?_)
      have K := K I4 hI4
      refine zg_putI (k := 1) dX7_append_48 zc7 rfl (Nat.le_of_ble_eq_true rfl) (Nat.le_of_ble_eq_true rfl) u_220 rfl rfl ?_
      refine zi_iinc (v := x4 + (-1)) (ls' := [some (.ref 53), some (.long x1), none, some (.int x3), some (.int (x4 + (-1)))]) dX7_append_51 rfl (by decide) rfl rfl ?_
      refine zi_goto (tgt := 5) dX7_append_54 (by decide) ?_
      exact K
set_option maxRecDepth 100000 in
theorem tX7_readInto_0 {G : zG} {d b : Nat} {I : Nat → Nat → Int32} {L : Nat → Nat → Int64} {R : zR}  {o : Nat} (ho : zhl o) (hR : zR0 R)
    (K : (∃ (I1 : Nat → Nat → Int32), zCall (d + 6) mX7_nextToken [.ref 53] (zh b (zup I 53 3 0) L) (none, zh b I1 L) ∧ (∃ (r3 : Bool) (I4 : Nat → Nat → Int32), zCall (d + 6) mX7_readHill [.ref 53, .ref o] (zh b I1 L) (some (.int (zB r3)), zh b I4 L) ∧ ((r3 = true → zA G (d + 7) mX7_readInto 21 [some (.ref 53), some (.ref o), some (.int 1)] [] (zh b I4 L) R) ∧ (r3 = false → R = (some (.int (-1)), zh b I4 L)))))) :
    zA G (d + 7) mX7_readInto 0 [some (.ref 53), some (.ref o), none] [] (zh b I L) R := by
  refine zi_aload_n dX7_readInto_0 rfl rfl ?_
  refine zi_iconst (v := 0) dX7_readInto_1 (by decide) ?_
  refine zg_putI (k := 3) dX7_readInto_2 zc7 rfl (Nat.le_of_ble_eq_true rfl) (Nat.le_of_ble_eq_true rfl) u_224 rfl rfl ?_
  refine zi_aload_n dX7_readInto_5 rfl rfl ?_
  obtain ⟨I1, h2, K⟩ := K
  refine zi_callV (N := mX7_nextToken) (av := []) (st := []) (R1 := (none, zh b I1 L)) dX7_readInto_6 okX7_nextToken u_367 u_369 s_2 zc7 (rfl) (Nat.le_of_ble_eq_true rfl) arX7_nextToken rfl (Nat.le_of_ble_eq_true rfl) (h2) hR ?_
  show zA G (d + 7) mX7_readInto 9 [some (.ref 53), some (.ref o), none] [] (zh b I1 L) R
  refine zi_aload_n dX7_readInto_9 rfl rfl ?_
  refine zi_aload_n dX7_readInto_10 rfl rfl ?_
  obtain ⟨r3, I4, h5, K⟩ := K
  refine zi_callV (N := mX7_readHill) (av := [.ref o]) (st := []) (R1 := (some (.int (zB r3)), zh b I4 L)) dX7_readInto_11 okX7_readHill u_374 u_376 s_3 zc7 (rfl) (Nat.le_of_ble_eq_true rfl) arX7_readHill rfl (Nat.le_of_ble_eq_true rfl) (h5) hR ?_
  show zA G (d + 7) mX7_readInto 14 [some (.ref 53), some (.ref o), none] [.int (zB r3)] (zh b I4 L) R
  refine zi_if_ne (tgt := 19) dX7_readInto_14 (by decide) (fun c6 => ?_) (fun c6 => ?_)
  · have K := K.1 (zB_1 c6)
    refine zi_iconst (v := 1) dX7_readInto_19 (by decide) ?_
    refine zi_istore_n (ls' := [some (.ref 53), some (.ref o), some (.int 1)]) dX7_readInto_20 rfl (by decide) rfl ?_
    exact K
  · have K := K.2 (zB_0 c6)
    refine zi_iconst (v := (-1)) dX7_readInto_17 (by decide) ?_
    subst K
    exact zi_ireturn dX7_readInto_18 rfl rfl
set_option maxRecDepth 100000 in
theorem tX7_readInto_21 {G : zG} {d b : Nat} {I : Nat → Nat → Int32} {L : Nat → Nat → Int64} {R : zR} {x2 : Int32} {o : Nat} (ho : zhl o) (hR : zR0 R)
    (K : ((250 < x2 → R = (some (.int (-1)), zh b I L)) ∧ (¬ 250 < x2 → (∃ (I2 : Nat → Nat → Int32), zCall (d + 6) mX7_nextToken [.ref 53] (zh b I L) (none, zh b I2 L) ∧ ((¬ (I2 53 4) = 0 → (∃ (r5 : Bool) (I6 : Nat → Nat → Int32), zCall (d + 6) mX7_readItem [.ref 53, .ref o] (zh b I2 L) (some (.int (zB r5)), zh b I6 L) ∧ ((r5 = true → zA G (d + 7) mX7_readInto 21 [some (.ref 53), some (.ref o), some (.int (x2 + 1))] [] (zh b I6 L) R) ∧ (r5 = false → R = (some (.int (-1)), zh b I6 L))))) ∧ ((I2 53 4) = 0 → R = (some (.int x2), zh b I2 L))))))) :
    zA G (d + 7) mX7_readInto 21 [some (.ref 53), some (.ref o), some (.int x2)] [] (zh b I L) R := by
  refine zi_iload_n dX7_readInto_21 rfl rfl ?_
  refine zi_sipush (v := 250) dX7_readInto_22 (by decide) ?_
  refine zi_icmp_gt (tgt := 57) dX7_readInto_25 (by decide) (fun c1 => ?_) (fun c1 => ?_)
  · have K := K.1 c1
    refine zi_iconst (v := (-1)) dX7_readInto_57 (by decide) ?_
    subst K
    exact zi_ireturn dX7_readInto_58 rfl rfl
  · have K := K.2 c1
    refine zi_aload_n dX7_readInto_28 rfl rfl ?_
    obtain ⟨I2, h3, K⟩ := K
    refine zi_callV (N := mX7_nextToken) (av := []) (st := []) (R1 := (none, zh b I2 L)) dX7_readInto_29 okX7_nextToken u_367 u_369 s_2 zc7 (rfl) (Nat.le_of_ble_eq_true rfl) arX7_nextToken rfl (Nat.le_of_ble_eq_true rfl) (h3) hR ?_
    show zA G (d + 7) mX7_readInto 32 [some (.ref 53), some (.ref o), some (.int x2)] [] (zh b I2 L) R
    refine zi_aload_n dX7_readInto_32 rfl rfl ?_
    refine zg_getI (k := 4) dX7_readInto_33 zc7 rfl (Nat.le_of_ble_eq_true rfl) (Nat.le_of_ble_eq_true rfl) u_225 rfl ?_
    refine zi_if_ne (tgt := 41) dX7_readInto_36 (by decide) (fun c4 => ?_) (fun c4 => ?_)
    · have K := K.1 c4
      refine zi_aload_n dX7_readInto_41 rfl rfl ?_
      refine zi_aload_n dX7_readInto_42 rfl rfl ?_
      obtain ⟨r5, I6, h7, K⟩ := K
      refine zi_callV (N := mX7_readItem) (av := [.ref o]) (st := []) (R1 := (some (.int (zB r5)), zh b I6 L)) dX7_readInto_43 okX7_readItem u_441 u_443 s_7 zc7 (rfl) (Nat.le_of_ble_eq_true rfl) arX7_readItem rfl (Nat.le_of_ble_eq_true rfl) (h7) hR ?_
      show zA G (d + 7) mX7_readInto 46 [some (.ref 53), some (.ref o), some (.int x2)] [.int (zB r5)] (zh b I6 L) R
      refine zi_if_ne (tgt := 51) dX7_readInto_46 (by decide) (fun c8 => ?_) (fun c8 => ?_)
      · have K := K.1 (zB_1 c8)
        refine zi_iinc (v := x2 + 1) (ls' := [some (.ref 53), some (.ref o), some (.int (x2 + 1))]) dX7_readInto_51 rfl (by decide) rfl rfl ?_
        refine zi_goto (tgt := 21) dX7_readInto_54 (by decide) ?_
        exact K
      · have K := K.2 (zB_0 c8)
        refine zi_iconst (v := (-1)) dX7_readInto_49 (by decide) ?_
        subst K
        exact zi_ireturn dX7_readInto_50 rfl rfl
    · have K := K.2 c4
      refine zi_iload_n dX7_readInto_39 rfl rfl ?_
      subst K
      exact zi_ireturn dX7_readInto_40 rfl rfl
set_option maxRecDepth 100000 in
theorem tX7_readHill_0 {G : zG} {d b : Nat} {I : Nat → Nat → Int32} {L : Nat → Nat → Int64} {R : zR}  {o : Nat} (ho : zhl o) (hR : zR0 R)
    (K : (∃ (r1 : Bool) (I2 : Nat → Nat → Int32), zCall (d + 5) mX7_isWord [.ref 53, .ref 1000] (zh b I L) (some (.int (zB r1)), zh b I2 L) ∧ ((r1 = true → (∃ (r5 : Int32) (I6 : Nat → Nat → Int32), zCall (d + 5) mX7_nextNumber [.ref 53, .int 1, .int 8] (zh b I2 L) (some (.int r5), zh b I6 L) ∧ ((¬ r5 = (-1) → (∃ (r9 : Int32) (I10 : Nat → Nat → Int32), zCall (d + 5) mX7_nextNumber [.ref 53, .int 1, .int 6] (zh b I6 L) (some (.int r9), zh b I10 L) ∧ ((¬ r9 = (-1) → (∃ (I13 : Nat → Nat → Int32), zCall (d + 5) mX4_layOut [.ref o, .int r5, .int r9] (zh b I10 L) (none, zh b I13 L) ∧ (∃ (r15 : Bool) (I16 : Nat → Nat → Int32), zCall (d + 5) mX7_nextIsSemicolon [.ref 53] (zh b I13 L) (some (.int (zB r15)), zh b I16 L) ∧ R = (some (.int (zB r15)), zh b I16 L)))) ∧ (r9 = (-1) → R = (some (.int 0), zh b I10 L))))) ∧ (r5 = (-1) → ((¬ ((-1) : Int32) = (-1) → (∃ (I19 : Nat → Nat → Int32), zCall (d + 5) mX4_layOut [.ref o, .int r5, .int (-1)] (zh b I6 L) (none, zh b I19 L) ∧ (∃ (r21 : Bool) (I22 : Nat → Nat → Int32), zCall (d + 5) mX7_nextIsSemicolon [.ref 53] (zh b I19 L) (some (.int (zB r21)), zh b I22 L) ∧ R = (some (.int (zB r21)), zh b I22 L)))) ∧ (((-1) : Int32) = (-1) → R = (some (.int 0), zh b I6 L))))))) ∧ (r1 = false → R = (some (.int 0), zh b I2 L))))) :
    zA G (d + 6) mX7_readHill 0 [some (.ref 53), some (.ref o), none, none] [] (zh b I L) R := by
  refine zi_aload_n dX7_readHill_0 rfl rfl ?_
  refine zi_ldcS (k := 0) dX7_readHill_1 rfl rfl ?_
  obtain ⟨r1, I2, h3, K⟩ := K
  refine zi_callV (N := mX7_isWord) (av := [.ref 1000]) (st := []) (R1 := (some (.int (zB r1)), zh b I2 L)) dX7_readHill_3 okX7_isWord u_379 u_381 s_4 zc7 (rfl) (Nat.le_of_ble_eq_true rfl) arX7_isWord rfl (Nat.le_of_ble_eq_true rfl) (h3) hR ?_
  show zA G (d + 6) mX7_readHill 6 [some (.ref 53), some (.ref o), none, none] [.int (zB r1)] (zh b I2 L) R
  refine zi_if_ne (tgt := 11) dX7_readHill_6 (by decide) (fun c4 => ?_) (fun c4 => ?_)
  · have K := K.1 (zB_1 c4)
    refine zi_aload_n dX7_readHill_11 rfl rfl ?_
    refine zi_iconst (v := 1) dX7_readHill_12 (by decide) ?_
    refine zi_bipush (v := 8) dX7_readHill_13 (by decide) ?_
    obtain ⟨r5, I6, h7, K⟩ := K
    refine zi_callV (N := mX7_nextNumber) (av := [.int 1, .int 8]) (st := []) (R1 := (some (.int r5), zh b I6 L)) dX7_readHill_15 okX7_nextNumber u_431 u_433 s_5 zc7 (rfl) (Nat.le_of_ble_eq_true rfl) arX7_nextNumber rfl (Nat.le_of_ble_eq_true rfl) (h7) hR ?_
    show zA G (d + 6) mX7_readHill 18 [some (.ref 53), some (.ref o), none, none] [.int r5] (zh b I6 L) R
    refine zi_istore_n (ls' := [some (.ref 53), some (.ref o), some (.int r5), none]) dX7_readHill_18 rfl (by decide) rfl ?_
    refine zi_iload_n dX7_readHill_19 rfl rfl ?_
    refine zi_iconst (v := (-1)) dX7_readHill_20 (by decide) ?_
    refine zi_icmp_ne (tgt := 28) dX7_readHill_21 (by decide) (fun c8 => ?_) (fun c8 => ?_)
    · have K := K.1 c8
      refine zi_aload_n dX7_readHill_28 rfl rfl ?_
      refine zi_iconst (v := 1) dX7_readHill_29 (by decide) ?_
      refine zi_bipush (v := 6) dX7_readHill_30 (by decide) ?_
      obtain ⟨r9, I10, h11, K⟩ := K
      refine zi_callV (N := mX7_nextNumber) (av := [.int 1, .int 6]) (st := []) (R1 := (some (.int r9), zh b I10 L)) dX7_readHill_32 okX7_nextNumber u_431 u_433 s_5 zc7 (rfl) (Nat.le_of_ble_eq_true rfl) arX7_nextNumber rfl (Nat.le_of_ble_eq_true rfl) (h11) hR ?_
      show zA G (d + 6) mX7_readHill 35 [some (.ref 53), some (.ref o), some (.int r5), none] [.int r9] (zh b I10 L) R
      refine zi_istore_n (ls' := [some (.ref 53), some (.ref o), some (.int r5), some (.int r9)]) dX7_readHill_35 rfl (by decide) rfl ?_
      refine zi_iload_n dX7_readHill_36 rfl rfl ?_
      refine zi_iconst (v := (-1)) dX7_readHill_37 (by decide) ?_
      refine zi_icmp_ne (tgt := 43) dX7_readHill_38 (by decide) (fun c12 => ?_) (fun c12 => ?_)
      · have K := K.1 c12
        refine zi_aload_n dX7_readHill_43 rfl rfl ?_
        refine zi_iload_n dX7_readHill_44 rfl rfl ?_
        refine zi_iload_n dX7_readHill_45 rfl rfl ?_
        obtain ⟨I13, h14, K⟩ := K
        refine zi_callV (N := mX4_layOut) (av := [.int r5, .int r9]) (st := []) (R1 := (none, zh b I13 L)) dX7_readHill_46 okX4_layOut u_436 u_238 u_239 zc4 (ho.sh) ho.l0 arX4_layOut rfl (Nat.le_of_ble_eq_true rfl) (h14) hR ?_
        show zA G (d + 6) mX7_readHill 49 [some (.ref 53), some (.ref o), some (.int r5), some (.int r9)] [] (zh b I13 L) R
        refine zi_aload_n dX7_readHill_49 rfl rfl ?_
        obtain ⟨r15, I16, h17, K⟩ := K
        refine zi_callV (N := mX7_nextIsSemicolon) (av := []) (st := []) (R1 := (some (.int (zB r15)), zh b I16 L)) dX7_readHill_50 okX7_nextIsSemicolon u_437 u_439 s_6 zc7 (rfl) (Nat.le_of_ble_eq_true rfl) arX7_nextIsSemicolon rfl (Nat.le_of_ble_eq_true rfl) (h17) hR ?_
        show zA G (d + 6) mX7_readHill 53 [some (.ref 53), some (.ref o), some (.int r5), some (.int r9)] [.int (zB r15)] (zh b I16 L) R
        subst K
        exact zi_ireturn dX7_readHill_53 rfl (znB _)
      · have K := K.2 c12
        refine zi_iconst (v := 0) dX7_readHill_41 (by decide) ?_
        subst K
        exact zi_ireturn dX7_readHill_42 rfl (by decide)
    · have K := K.2 c8
      refine zi_iconst (v := (-1)) dX7_readHill_24 (by decide) ?_
      refine zi_goto (tgt := 35) dX7_readHill_25 (by decide) ?_
      refine zi_istore_n (ls' := [some (.ref 53), some (.ref o), some (.int r5), some (.int (-1))]) dX7_readHill_35 rfl (by decide) rfl ?_
      refine zi_iload_n dX7_readHill_36 rfl rfl ?_
      refine zi_iconst (v := (-1)) dX7_readHill_37 (by decide) ?_
      refine zi_icmp_ne (tgt := 43) dX7_readHill_38 (by decide) (fun c18 => ?_) (fun c18 => ?_)
      · have K := K.1 c18
        refine zi_aload_n dX7_readHill_43 rfl rfl ?_
        refine zi_iload_n dX7_readHill_44 rfl rfl ?_
        refine zi_iload_n dX7_readHill_45 rfl rfl ?_
        obtain ⟨I19, h20, K⟩ := K
        refine zi_callV (N := mX4_layOut) (av := [.int r5, .int (-1)]) (st := []) (R1 := (none, zh b I19 L)) dX7_readHill_46 okX4_layOut u_436 u_238 u_239 zc4 (ho.sh) ho.l0 arX4_layOut rfl (Nat.le_of_ble_eq_true rfl) (h20) hR ?_
        show zA G (d + 6) mX7_readHill 49 [some (.ref 53), some (.ref o), some (.int r5), some (.int (-1))] [] (zh b I19 L) R
        refine zi_aload_n dX7_readHill_49 rfl rfl ?_
        obtain ⟨r21, I22, h23, K⟩ := K
        refine zi_callV (N := mX7_nextIsSemicolon) (av := []) (st := []) (R1 := (some (.int (zB r21)), zh b I22 L)) dX7_readHill_50 okX7_nextIsSemicolon u_437 u_439 s_6 zc7 (rfl) (Nat.le_of_ble_eq_true rfl) arX7_nextIsSemicolon rfl (Nat.le_of_ble_eq_true rfl) (h23) hR ?_
        show zA G (d + 6) mX7_readHill 53 [some (.ref 53), some (.ref o), some (.int r5), some (.int (-1))] [.int (zB r21)] (zh b I22 L) R
        subst K
        exact zi_ireturn dX7_readHill_53 rfl (znB _)
      · have K := K.2 c18
        refine zi_iconst (v := 0) dX7_readHill_41 (by decide) ?_
        subst K
        exact zi_ireturn dX7_readHill_42 rfl (by decide)
  · have K := K.2 (zB_0 c4)
    refine zi_iconst (v := 0) dX7_readHill_9 (by decide) ?_
    subst K
    exact zi_ireturn dX7_readHill_10 rfl (by decide)
set_option maxRecDepth 100000 in
theorem tX7_readItem_0 {G : zG} {d b : Nat} {I : Nat → Nat → Int32} {L : Nat → Nat → Int64} {R : zR}  {o : Nat} (ho : zhl o) (hR : zR0 R)
    (K : (∃ (r1 : Bool) (I2 : Nat → Nat → Int32), zCall (d + 5) mX7_isWord [.ref 53, .ref 1001] (zh b I L) (some (.int (zB r1)), zh b I2 L) ∧ ((r1 = false → (∃ (r5 : Bool) (I6 : Nat → Nat → Int32), zCall (d + 5) mX7_isWord [.ref 53, .ref 1002] (zh b I2 L) (some (.int (zB r5)), zh b I6 L) ∧ ((r5 = false → (∃ (r9 : Bool) (I10 : Nat → Nat → Int32), zCall (d + 5) mX7_isWord [.ref 53, .ref 1003] (zh b I6 L) (some (.int (zB r9)), zh b I10 L) ∧ ((r9 = false → (∃ (r13 : Bool) (I14 : Nat → Nat → Int32), zCall (d + 5) mX7_isWord [.ref 53, .ref 1004] (zh b I10 L) (some (.int (zB r13)), zh b I14 L) ∧ ((r13 = false → R = (some (.int 0), zh b I14 L)) ∧ (r13 = true → (∃ (r17 : Bool) (I18 : Nat → Nat → Int32), zCall (d + 5) mX7_readLine [.ref 53, .ref o] (zh b I14 L) (some (.int (zB r17)), zh b I18 L) ∧ ((r17 = false → R = (some (.int 0), zh b I18 L)) ∧ (r17 = true → R = (some (.int 1), zh b I18 L)))))))) ∧ (r9 = true → (∃ (r21 : Bool) (I22 : Nat → Nat → Int32), zCall (d + 5) mX7_readRunner [.ref 53, .ref o] (zh b I10 L) (some (.int (zB r21)), zh b I22 L) ∧ R = (some (.int (zB r21)), zh b I22 L)))))) ∧ (r5 = true → (∃ (r24 : Bool) (I25 : Nat → Nat → Int32), zCall (d + 5) mX7_readCell [.ref 53, .ref o, .ref (o + 2), .int 3] (zh b I6 L) (some (.int (zB r24)), zh b I25 L) ∧ R = (some (.int (zB r24)), zh b I25 L)))))) ∧ (r1 = true → (∃ (r27 : Bool) (I28 : Nat → Nat → Int32), zCall (d + 5) mX7_readCell [.ref 53, .ref o, .ref (o + 1), .int 9] (zh b I2 L) (some (.int (zB r27)), zh b I28 L) ∧ R = (some (.int (zB r27)), zh b I28 L)))))) :
    zA G (d + 6) mX7_readItem 0 [some (.ref 53), some (.ref o)] [] (zh b I L) R := by
  refine zi_aload_n dX7_readItem_0 rfl rfl ?_
  refine zi_ldcS (k := 1) dX7_readItem_1 rfl rfl ?_
  obtain ⟨r1, I2, h3, K⟩ := K
  refine zi_callV (N := mX7_isWord) (av := [.ref 1001]) (st := []) (R1 := (some (.int (zB r1)), zh b I2 L)) dX7_readItem_3 okX7_isWord u_379 u_381 s_4 zc7 (rfl) (Nat.le_of_ble_eq_true rfl) arX7_isWord rfl (Nat.le_of_ble_eq_true rfl) (h3) hR ?_
  show zA G (d + 6) mX7_readItem 6 [some (.ref 53), some (.ref o)] [.int (zB r1)] (zh b I2 L) R
  refine zi_if_eq (tgt := 21) dX7_readItem_6 (by decide) (fun c4 => ?_) (fun c4 => ?_)
  · have K := K.1 (zB_0 c4)
    refine zi_aload_n dX7_readItem_21 rfl rfl ?_
    refine zi_ldcS (k := 2) dX7_readItem_22 rfl rfl ?_
    obtain ⟨r5, I6, h7, K⟩ := K
    refine zi_callV (N := mX7_isWord) (av := [.ref 1002]) (st := []) (R1 := (some (.int (zB r5)), zh b I6 L)) dX7_readItem_24 okX7_isWord u_379 u_381 s_4 zc7 (rfl) (Nat.le_of_ble_eq_true rfl) arX7_isWord rfl (Nat.le_of_ble_eq_true rfl) (h7) hR ?_
    show zA G (d + 6) mX7_readItem 27 [some (.ref 53), some (.ref o)] [.int (zB r5)] (zh b I6 L) R
    refine zi_if_eq (tgt := 41) dX7_readItem_27 (by decide) (fun c8 => ?_) (fun c8 => ?_)
    · have K := K.1 (zB_0 c8)
      refine zi_aload_n dX7_readItem_41 rfl rfl ?_
      refine zi_ldcS (k := 3) dX7_readItem_42 rfl rfl ?_
      obtain ⟨r9, I10, h11, K⟩ := K
      refine zi_callV (N := mX7_isWord) (av := [.ref 1003]) (st := []) (R1 := (some (.int (zB r9)), zh b I10 L)) dX7_readItem_44 okX7_isWord u_379 u_381 s_4 zc7 (rfl) (Nat.le_of_ble_eq_true rfl) arX7_isWord rfl (Nat.le_of_ble_eq_true rfl) (h11) hR ?_
      show zA G (d + 6) mX7_readItem 47 [some (.ref 53), some (.ref o)] [.int (zB r9)] (zh b I10 L) R
      refine zi_if_eq (tgt := 56) dX7_readItem_47 (by decide) (fun c12 => ?_) (fun c12 => ?_)
      · have K := K.1 (zB_0 c12)
        refine zi_aload_n dX7_readItem_56 rfl rfl ?_
        refine zi_ldcS (k := 4) dX7_readItem_57 rfl rfl ?_
        obtain ⟨r13, I14, h15, K⟩ := K
        refine zi_callV (N := mX7_isWord) (av := [.ref 1004]) (st := []) (R1 := (some (.int (zB r13)), zh b I14 L)) dX7_readItem_59 okX7_isWord u_379 u_381 s_4 zc7 (rfl) (Nat.le_of_ble_eq_true rfl) arX7_isWord rfl (Nat.le_of_ble_eq_true rfl) (h15) hR ?_
        show zA G (d + 6) mX7_readItem 62 [some (.ref 53), some (.ref o)] [.int (zB r13)] (zh b I14 L) R
        refine zi_if_eq (tgt := 77) dX7_readItem_62 (by decide) (fun c16 => ?_) (fun c16 => ?_)
        · have K := K.1 (zB_0 c16)
          refine zi_iconst (v := 0) dX7_readItem_77 (by decide) ?_
          subst K
          exact zi_ireturn dX7_readItem_78 rfl (by decide)
        · have K := K.2 (zB_1 c16)
          refine zi_aload_n dX7_readItem_65 rfl rfl ?_
          refine zi_aload_n dX7_readItem_66 rfl rfl ?_
          obtain ⟨r17, I18, h19, K⟩ := K
          refine zi_callV (N := mX7_readLine) (av := [.ref o]) (st := []) (R1 := (some (.int (zB r17)), zh b I18 L)) dX7_readItem_67 okX7_readLine u_459 u_461 s_10 zc7 (rfl) (Nat.le_of_ble_eq_true rfl) arX7_readLine rfl (Nat.le_of_ble_eq_true rfl) (h19) hR ?_
          show zA G (d + 6) mX7_readItem 70 [some (.ref 53), some (.ref o)] [.int (zB r17)] (zh b I18 L) R
          refine zi_if_eq (tgt := 77) dX7_readItem_70 (by decide) (fun c20 => ?_) (fun c20 => ?_)
          · have K := K.1 (zB_0 c20)
            refine zi_iconst (v := 0) dX7_readItem_77 (by decide) ?_
            subst K
            exact zi_ireturn dX7_readItem_78 rfl (by decide)
          · have K := K.2 (zB_1 c20)
            refine zi_iconst (v := 1) dX7_readItem_73 (by decide) ?_
            refine zi_goto (tgt := 78) dX7_readItem_74 (by decide) ?_
            subst K
            exact zi_ireturn dX7_readItem_78 rfl (by decide)
      · have K := K.2 (zB_1 c12)
        refine zi_aload_n dX7_readItem_50 rfl rfl ?_
        refine zi_aload_n dX7_readItem_51 rfl rfl ?_
        obtain ⟨r21, I22, h23, K⟩ := K
        refine zi_callV (N := mX7_readRunner) (av := [.ref o]) (st := []) (R1 := (some (.int (zB r21)), zh b I22 L)) dX7_readItem_52 okX7_readRunner u_453 u_455 s_9 zc7 (rfl) (Nat.le_of_ble_eq_true rfl) arX7_readRunner rfl (Nat.le_of_ble_eq_true rfl) (h23) hR ?_
        show zA G (d + 6) mX7_readItem 55 [some (.ref 53), some (.ref o)] [.int (zB r21)] (zh b I22 L) R
        subst K
        exact zi_ireturn dX7_readItem_55 rfl (znB _)
    · have K := K.2 (zB_1 c8)
      refine zi_aload_n dX7_readItem_30 rfl rfl ?_
      refine zi_aload_n dX7_readItem_31 rfl rfl ?_
      refine zi_aload_n dX7_readItem_32 rfl rfl ?_
      refine zg_getF (k := 6) (v := .ref (o + 2)) dX7_readItem_33 zc4 ho.sh ho.l0 (Nat.le_of_ble_eq_true rfl) u_64 rfl (ho.f6) ?_
      refine zi_iconst (v := 3) dX7_readItem_36 (by decide) ?_
      obtain ⟨r24, I25, h26, K⟩ := K
      refine zi_callV (N := mX7_readCell) (av := [.ref o, .ref (o + 2), .int 3]) (st := []) (R1 := (some (.int (zB r24)), zh b I25 L)) dX7_readItem_37 okX7_readCell u_446 u_448 s_8 zc7 (rfl) (Nat.le_of_ble_eq_true rfl) arX7_readCell rfl (Nat.le_of_ble_eq_true rfl) (h26) hR ?_
      show zA G (d + 6) mX7_readItem 40 [some (.ref 53), some (.ref o)] [.int (zB r24)] (zh b I25 L) R
      subst K
      exact zi_ireturn dX7_readItem_40 rfl (znB _)
  · have K := K.2 (zB_1 c4)
    refine zi_aload_n dX7_readItem_9 rfl rfl ?_
    refine zi_aload_n dX7_readItem_10 rfl rfl ?_
    refine zi_aload_n dX7_readItem_11 rfl rfl ?_
    refine zg_getF (k := 5) (v := .ref (o + 1)) dX7_readItem_12 zc4 ho.sh ho.l0 (Nat.le_of_ble_eq_true rfl) u_58 rfl (ho.f5) ?_
    refine zi_bipush (v := 9) dX7_readItem_15 (by decide) ?_
    obtain ⟨r27, I28, h29, K⟩ := K
    refine zi_callV (N := mX7_readCell) (av := [.ref o, .ref (o + 1), .int 9]) (st := []) (R1 := (some (.int (zB r27)), zh b I28 L)) dX7_readItem_17 okX7_readCell u_446 u_448 s_8 zc7 (rfl) (Nat.le_of_ble_eq_true rfl) arX7_readCell rfl (Nat.le_of_ble_eq_true rfl) (h29) hR ?_
    show zA G (d + 6) mX7_readItem 20 [some (.ref 53), some (.ref o)] [.int (zB r27)] (zh b I28 L) R
    subst K
    exact zi_ireturn dX7_readItem_20 rfl (znB _)
set_option maxRecDepth 100000 in
theorem tX7_readCell_0 {G : zG} {d b : Nat} {I : Nat → Nat → Int32} {L : Nat → Nat → Int64} {R : zR} {x3 : Int32} {o : Nat} (ho : zhl o) {a : Nat} (ha : zsh a = (100, 48)) (la : a < 74) (hR : zR0 R)
    (K : (∃ (r1 : Int32) (I2 : Nat → Nat → Int32), zCall (d + 2) mX7_nextNumber [.ref 53, .int 0, .int ((I o 0) - 1)] (zh b I L) (some (.int r1), zh b I2 L) ∧ ((¬ r1 = (-1) → (∃ (r5 : Int32) (I6 : Nat → Nat → Int32), zCall (d + 2) mX7_nextNumber [.ref 53, .int 0, .int ((I2 o 1) - 1)] (zh b I2 L) (some (.int r5), zh b I6 L) ∧ ((¬ r5 = (-1) → (∃ (r9 : Int32) (I10 : Nat → Nat → Int32), zCall (d + 2) mX7_nextNumber [.ref 53, .int 0, .int x3] (zh b I6 L) (some (.int r9), zh b I10 L) ∧ ((¬ r9 = (-1) → (vp_in ((r1 * 6) + r5) 48 ∧ (∃ (r14 : Bool) (I15 : Nat → Nat → Int32), zCall (d + 2) mX7_nextIsSemicolon [.ref 53] (zh b (zup I10 a (zx ((r1 * 6) + r5)) r9) L) (some (.int (zB r14)), zh b I15 L) ∧ R = (some (.int (zB r14)), zh b I15 L)))) ∧ (r9 = (-1) → R = (some (.int 0), zh b I10 L))))) ∧ (r5 = (-1) → ((¬ ((-1) : Int32) = (-1) → (vp_in ((r1 * 6) + r5) 48 ∧ (∃ (r19 : Bool) (I20 : Nat → Nat → Int32), zCall (d + 2) mX7_nextIsSemicolon [.ref 53] (zh b (zup I6 a (zx ((r1 * 6) + r5)) (-1)) L) (some (.int (zB r19)), zh b I20 L) ∧ R = (some (.int (zB r19)), zh b I20 L)))) ∧ (((-1) : Int32) = (-1) → R = (some (.int 0), zh b I6 L))))))) ∧ (r1 = (-1) → ((¬ ((-1) : Int32) = (-1) → (∃ (r23 : Int32) (I24 : Nat → Nat → Int32), zCall (d + 2) mX7_nextNumber [.ref 53, .int 0, .int x3] (zh b I2 L) (some (.int r23), zh b I24 L) ∧ ((¬ r23 = (-1) → (vp_in ((r1 * 6) + (-1)) 48 ∧ (∃ (r28 : Bool) (I29 : Nat → Nat → Int32), zCall (d + 2) mX7_nextIsSemicolon [.ref 53] (zh b (zup I24 a (zx ((r1 * 6) + (-1))) r23) L) (some (.int (zB r28)), zh b I29 L) ∧ R = (some (.int (zB r28)), zh b I29 L)))) ∧ (r23 = (-1) → R = (some (.int 0), zh b I24 L))))) ∧ (((-1) : Int32) = (-1) → ((¬ ((-1) : Int32) = (-1) → (vp_in ((r1 * 6) + (-1)) 48 ∧ (∃ (r33 : Bool) (I34 : Nat → Nat → Int32), zCall (d + 2) mX7_nextIsSemicolon [.ref 53] (zh b (zup I2 a (zx ((r1 * 6) + (-1))) (-1)) L) (some (.int (zB r33)), zh b I34 L) ∧ R = (some (.int (zB r33)), zh b I34 L)))) ∧ (((-1) : Int32) = (-1) → R = (some (.int 0), zh b I2 L))))))))) :
    zA G (d + 3) mX7_readCell 0 [some (.ref 53), some (.ref o), some (.ref a), some (.int x3), none, none, none] [] (zh b I L) R := by
  refine zi_aload_n dX7_readCell_0 rfl rfl ?_
  refine zi_iconst (v := 0) dX7_readCell_1 (by decide) ?_
  refine zi_aload_n dX7_readCell_2 rfl rfl ?_
  refine zg_getI (k := 0) dX7_readCell_3 zc4 ho.sh ho.l0 (Nat.le_of_ble_eq_true rfl) u_40 rfl ?_
  refine zi_iconst (v := 1) dX7_readCell_6 (by decide) ?_
  refine zi_isub dX7_readCell_7 ?_
  obtain ⟨r1, I2, h3, K⟩ := K
  refine zi_callV (N := mX7_nextNumber) (av := [.int 0, .int ((I o 0) - 1)]) (st := []) (R1 := (some (.int r1), zh b I2 L)) dX7_readCell_8 okX7_nextNumber u_431 u_433 s_5 zc7 (rfl) (Nat.le_of_ble_eq_true rfl) arX7_nextNumber rfl (Nat.le_of_ble_eq_true rfl) (h3) hR ?_
  show zA G (d + 3) mX7_readCell 11 [some (.ref 53), some (.ref o), some (.ref a), some (.int x3), none, none, none] [.int r1] (zh b I2 L) R
  refine zi_istore (ls' := [some (.ref 53), some (.ref o), some (.ref a), some (.int x3), some (.int r1), none, none]) dX7_readCell_11 (by decide) rfl ?_
  refine zi_iload dX7_readCell_13 rfl ?_
  refine zi_iconst (v := (-1)) dX7_readCell_15 (by decide) ?_
  refine zi_icmp_ne (tgt := 23) dX7_readCell_16 (by decide) (fun c4 => ?_) (fun c4 => ?_)
  · have K := K.1 c4
    refine zi_aload_n dX7_readCell_23 rfl rfl ?_
    refine zi_iconst (v := 0) dX7_readCell_24 (by decide) ?_
    refine zi_aload_n dX7_readCell_25 rfl rfl ?_
    refine zg_getI (k := 1) dX7_readCell_26 zc4 ho.sh ho.l0 (Nat.le_of_ble_eq_true rfl) u_45 rfl ?_
    refine zi_iconst (v := 1) dX7_readCell_29 (by decide) ?_
    refine zi_isub dX7_readCell_30 ?_
    obtain ⟨r5, I6, h7, K⟩ := K
    refine zi_callV (N := mX7_nextNumber) (av := [.int 0, .int ((I2 o 1) - 1)]) (st := []) (R1 := (some (.int r5), zh b I6 L)) dX7_readCell_31 okX7_nextNumber u_431 u_433 s_5 zc7 (rfl) (Nat.le_of_ble_eq_true rfl) arX7_nextNumber rfl (Nat.le_of_ble_eq_true rfl) (h7) hR ?_
    show zA G (d + 3) mX7_readCell 34 [some (.ref 53), some (.ref o), some (.ref a), some (.int x3), some (.int r1), none, none] [.int r5] (zh b I6 L) R
    refine zi_istore (ls' := [some (.ref 53), some (.ref o), some (.ref a), some (.int x3), some (.int r1), some (.int r5), none]) dX7_readCell_34 (by decide) rfl ?_
    refine zi_iload dX7_readCell_36 rfl ?_
    refine zi_iconst (v := (-1)) dX7_readCell_38 (by decide) ?_
    refine zi_icmp_ne (tgt := 46) dX7_readCell_39 (by decide) (fun c8 => ?_) (fun c8 => ?_)
    · have K := K.1 c8
      refine zi_aload_n dX7_readCell_46 rfl rfl ?_
      refine zi_iconst (v := 0) dX7_readCell_47 (by decide) ?_
      refine zi_iload_n dX7_readCell_48 rfl rfl ?_
      obtain ⟨r9, I10, h11, K⟩ := K
      refine zi_callV (N := mX7_nextNumber) (av := [.int 0, .int x3]) (st := []) (R1 := (some (.int r9), zh b I10 L)) dX7_readCell_49 okX7_nextNumber u_431 u_433 s_5 zc7 (rfl) (Nat.le_of_ble_eq_true rfl) arX7_nextNumber rfl (Nat.le_of_ble_eq_true rfl) (h11) hR ?_
      show zA G (d + 3) mX7_readCell 52 [some (.ref 53), some (.ref o), some (.ref a), some (.int x3), some (.int r1), some (.int r5), none] [.int r9] (zh b I10 L) R
      refine zi_istore (ls' := [some (.ref 53), some (.ref o), some (.ref a), some (.int x3), some (.int r1), some (.int r5), some (.int r9)]) dX7_readCell_52 (by decide) rfl ?_
      refine zi_iload dX7_readCell_54 rfl ?_
      refine zi_iconst (v := (-1)) dX7_readCell_56 (by decide) ?_
      refine zi_icmp_ne (tgt := 62) dX7_readCell_57 (by decide) (fun c12 => ?_) (fun c12 => ?_)
      · have K := K.1 c12
        refine zi_aload_n dX7_readCell_62 rfl rfl ?_
        refine zi_iload dX7_readCell_63 rfl ?_
        refine zi_iload dX7_readCell_65 rfl ?_
        refine zi_callSN (N := mX11_cell) (av := [.int r1, .int r5]) (st := [.ref a]) (R1 := (some (.int ((r1 * 6) + r5)), zh b I10 L)) dX7_readCell_67 okX11_cell (by decide) u_315 arX11_cell rfl (Nat.le_of_ble_eq_true rfl) (kX11_cell _ _) hR ?_
        show zA G (d + 3) mX7_readCell 70 [some (.ref 53), some (.ref o), some (.ref a), some (.int x3), some (.int r1), some (.int r5), some (.int r9)] [.int ((r1 * 6) + r5), .ref a] (zh b I10 L) R
        refine zi_iload dX7_readCell_70 rfl ?_
        have o13 := K.1
        have K := K.2
        refine zg_iastore dX7_readCell_72 (ha) la o13 ?_
        refine zi_aload_n dX7_readCell_73 rfl rfl ?_
        obtain ⟨r14, I15, h16, K⟩ := K
        refine zi_callV (N := mX7_nextIsSemicolon) (av := []) (st := []) (R1 := (some (.int (zB r14)), zh b I15 L)) dX7_readCell_74 okX7_nextIsSemicolon u_437 u_439 s_6 zc7 (rfl) (Nat.le_of_ble_eq_true rfl) arX7_nextIsSemicolon rfl (Nat.le_of_ble_eq_true rfl) (h16) hR ?_
        show zA G (d + 3) mX7_readCell 77 [some (.ref 53), some (.ref o), some (.ref a), some (.int x3), some (.int r1), some (.int r5), some (.int r9)] [.int (zB r14)] (zh b I15 L) R
        subst K
        exact zi_ireturn dX7_readCell_77 rfl (znB _)
      · have K := K.2 c12
        refine zi_iconst (v := 0) dX7_readCell_60 (by decide) ?_
        subst K
        exact zi_ireturn dX7_readCell_61 rfl (by decide)
    · have K := K.2 c8
      refine zi_iconst (v := (-1)) dX7_readCell_42 (by decide) ?_
      refine zi_goto (tgt := 52) dX7_readCell_43 (by decide) ?_
      refine zi_istore (ls' := [some (.ref 53), some (.ref o), some (.ref a), some (.int x3), some (.int r1), some (.int r5), some (.int (-1))]) dX7_readCell_52 (by decide) rfl ?_
      refine zi_iload dX7_readCell_54 rfl ?_
      refine zi_iconst (v := (-1)) dX7_readCell_56 (by decide) ?_
      refine zi_icmp_ne (tgt := 62) dX7_readCell_57 (by decide) (fun c17 => ?_) (fun c17 => ?_)
      · have K := K.1 c17
        refine zi_aload_n dX7_readCell_62 rfl rfl ?_
        refine zi_iload dX7_readCell_63 rfl ?_
        refine zi_iload dX7_readCell_65 rfl ?_
        refine zi_callSN (N := mX11_cell) (av := [.int r1, .int r5]) (st := [.ref a]) (R1 := (some (.int ((r1 * 6) + r5)), zh b I6 L)) dX7_readCell_67 okX11_cell (by decide) u_315 arX11_cell rfl (Nat.le_of_ble_eq_true rfl) (kX11_cell _ _) hR ?_
        show zA G (d + 3) mX7_readCell 70 [some (.ref 53), some (.ref o), some (.ref a), some (.int x3), some (.int r1), some (.int r5), some (.int (-1))] [.int ((r1 * 6) + r5), .ref a] (zh b I6 L) R
        refine zi_iload dX7_readCell_70 rfl ?_
        have o18 := K.1
        have K := K.2
        refine zg_iastore dX7_readCell_72 (ha) la o18 ?_
        refine zi_aload_n dX7_readCell_73 rfl rfl ?_
        obtain ⟨r19, I20, h21, K⟩ := K
        refine zi_callV (N := mX7_nextIsSemicolon) (av := []) (st := []) (R1 := (some (.int (zB r19)), zh b I20 L)) dX7_readCell_74 okX7_nextIsSemicolon u_437 u_439 s_6 zc7 (rfl) (Nat.le_of_ble_eq_true rfl) arX7_nextIsSemicolon rfl (Nat.le_of_ble_eq_true rfl) (h21) hR ?_
        show zA G (d + 3) mX7_readCell 77 [some (.ref 53), some (.ref o), some (.ref a), some (.int x3), some (.int r1), some (.int r5), some (.int (-1))] [.int (zB r19)] (zh b I20 L) R
        subst K
        exact zi_ireturn dX7_readCell_77 rfl (znB _)
      · have K := K.2 c17
        refine zi_iconst (v := 0) dX7_readCell_60 (by decide) ?_
        subst K
        exact zi_ireturn dX7_readCell_61 rfl (by decide)
  · have K := K.2 c4
    refine zi_iconst (v := (-1)) dX7_readCell_19 (by decide) ?_
    refine zi_goto (tgt := 34) dX7_readCell_20 (by decide) ?_
    refine zi_istore (ls' := [some (.ref 53), some (.ref o), some (.ref a), some (.int x3), some (.int r1), some (.int (-1)), none]) dX7_readCell_34 (by decide) rfl ?_
    refine zi_iload dX7_readCell_36 rfl ?_
    refine zi_iconst (v := (-1)) dX7_readCell_38 (by decide) ?_
    refine zi_icmp_ne (tgt := 46) dX7_readCell_39 (by decide) (fun c22 => ?_) (fun c22 => ?_)
    · have K := K.1 c22
      refine zi_aload_n dX7_readCell_46 rfl rfl ?_
      refine zi_iconst (v := 0) dX7_readCell_47 (by decide) ?_
      refine zi_iload_n dX7_readCell_48 rfl rfl ?_
      obtain ⟨r23, I24, h25, K⟩ := K
      refine zi_callV (N := mX7_nextNumber) (av := [.int 0, .int x3]) (st := []) (R1 := (some (.int r23), zh b I24 L)) dX7_readCell_49 okX7_nextNumber u_431 u_433 s_5 zc7 (rfl) (Nat.le_of_ble_eq_true rfl) arX7_nextNumber rfl (Nat.le_of_ble_eq_true rfl) (h25) hR ?_
      show zA G (d + 3) mX7_readCell 52 [some (.ref 53), some (.ref o), some (.ref a), some (.int x3), some (.int r1), some (.int (-1)), none] [.int r23] (zh b I24 L) R
      refine zi_istore (ls' := [some (.ref 53), some (.ref o), some (.ref a), some (.int x3), some (.int r1), some (.int (-1)), some (.int r23)]) dX7_readCell_52 (by decide) rfl ?_
      refine zi_iload dX7_readCell_54 rfl ?_
      refine zi_iconst (v := (-1)) dX7_readCell_56 (by decide) ?_
      refine zi_icmp_ne (tgt := 62) dX7_readCell_57 (by decide) (fun c26 => ?_) (fun c26 => ?_)
      · have K := K.1 c26
        refine zi_aload_n dX7_readCell_62 rfl rfl ?_
        refine zi_iload dX7_readCell_63 rfl ?_
        refine zi_iload dX7_readCell_65 rfl ?_
        refine zi_callSN (N := mX11_cell) (av := [.int r1, .int (-1)]) (st := [.ref a]) (R1 := (some (.int ((r1 * 6) + (-1))), zh b I24 L)) dX7_readCell_67 okX11_cell (by decide) u_315 arX11_cell rfl (Nat.le_of_ble_eq_true rfl) (kX11_cell _ _) hR ?_
        show zA G (d + 3) mX7_readCell 70 [some (.ref 53), some (.ref o), some (.ref a), some (.int x3), some (.int r1), some (.int (-1)), some (.int r23)] [.int ((r1 * 6) + (-1)), .ref a] (zh b I24 L) R
        refine zi_iload dX7_readCell_70 rfl ?_
        have o27 := K.1
        have K := K.2
        refine zg_iastore dX7_readCell_72 (ha) la o27 ?_
        refine zi_aload_n dX7_readCell_73 rfl rfl ?_
        obtain ⟨r28, I29, h30, K⟩ := K
        refine zi_callV (N := mX7_nextIsSemicolon) (av := []) (st := []) (R1 := (some (.int (zB r28)), zh b I29 L)) dX7_readCell_74 okX7_nextIsSemicolon u_437 u_439 s_6 zc7 (rfl) (Nat.le_of_ble_eq_true rfl) arX7_nextIsSemicolon rfl (Nat.le_of_ble_eq_true rfl) (h30) hR ?_
        show zA G (d + 3) mX7_readCell 77 [some (.ref 53), some (.ref o), some (.ref a), some (.int x3), some (.int r1), some (.int (-1)), some (.int r23)] [.int (zB r28)] (zh b I29 L) R
        subst K
        exact zi_ireturn dX7_readCell_77 rfl (znB _)
      · have K := K.2 c26
        refine zi_iconst (v := 0) dX7_readCell_60 (by decide) ?_
        subst K
        exact zi_ireturn dX7_readCell_61 rfl (by decide)
    · have K := K.2 c22
      refine zi_iconst (v := (-1)) dX7_readCell_42 (by decide) ?_
      refine zi_goto (tgt := 52) dX7_readCell_43 (by decide) ?_
      refine zi_istore (ls' := [some (.ref 53), some (.ref o), some (.ref a), some (.int x3), some (.int r1), some (.int (-1)), some (.int (-1))]) dX7_readCell_52 (by decide) rfl ?_
      refine zi_iload dX7_readCell_54 rfl ?_
      refine zi_iconst (v := (-1)) dX7_readCell_56 (by decide) ?_
      refine zi_icmp_ne (tgt := 62) dX7_readCell_57 (by decide) (fun c31 => ?_) (fun c31 => ?_)
      · have K := K.1 c31
        refine zi_aload_n dX7_readCell_62 rfl rfl ?_
        refine zi_iload dX7_readCell_63 rfl ?_
        refine zi_iload dX7_readCell_65 rfl ?_
        refine zi_callSN (N := mX11_cell) (av := [.int r1, .int (-1)]) (st := [.ref a]) (R1 := (some (.int ((r1 * 6) + (-1))), zh b I2 L)) dX7_readCell_67 okX11_cell (by decide) u_315 arX11_cell rfl (Nat.le_of_ble_eq_true rfl) (kX11_cell _ _) hR ?_
        show zA G (d + 3) mX7_readCell 70 [some (.ref 53), some (.ref o), some (.ref a), some (.int x3), some (.int r1), some (.int (-1)), some (.int (-1))] [.int ((r1 * 6) + (-1)), .ref a] (zh b I2 L) R
        refine zi_iload dX7_readCell_70 rfl ?_
        have o32 := K.1
        have K := K.2
        refine zg_iastore dX7_readCell_72 (ha) la o32 ?_
        refine zi_aload_n dX7_readCell_73 rfl rfl ?_
        obtain ⟨r33, I34, h35, K⟩ := K
        refine zi_callV (N := mX7_nextIsSemicolon) (av := []) (st := []) (R1 := (some (.int (zB r33)), zh b I34 L)) dX7_readCell_74 okX7_nextIsSemicolon u_437 u_439 s_6 zc7 (rfl) (Nat.le_of_ble_eq_true rfl) arX7_nextIsSemicolon rfl (Nat.le_of_ble_eq_true rfl) (h35) hR ?_
        show zA G (d + 3) mX7_readCell 77 [some (.ref 53), some (.ref o), some (.ref a), some (.int x3), some (.int r1), some (.int (-1)), some (.int (-1))] [.int (zB r33)] (zh b I34 L) R
        subst K
        exact zi_ireturn dX7_readCell_77 rfl (znB _)
      · have K := K.2 c31
        refine zi_iconst (v := 0) dX7_readCell_60 (by decide) ?_
        subst K
        exact zi_ireturn dX7_readCell_61 rfl (by decide)
set_option maxRecDepth 100000 in
theorem tX7_readRunner_0 {G : zG} {d b : Nat} {I : Nat → Nat → Int32} {L : Nat → Nat → Int64} {R : zR}  {o : Nat} (ho : zhl o) (hR : zR0 R)
    (K : (((I o 2) < 6 → (∃ (r2 : Int32) (I3 : Nat → Nat → Int32), zCall (d + 2) mX7_nextNumber [.ref 53, .int 0, .int 4] (zh b I L) (some (.int r2), zh b I3 L) ∧ ((¬ r2 = (-1) → (∃ (r6 : Int32) (I7 : Nat → Nat → Int32), zCall (d + 2) mX7_nextNumber [.ref 53, .int 0, .int ((I3 o 1) - 1)] (zh b I3 L) (some (.int r6), zh b I7 L) ∧ ((¬ r6 = (-1) → (∃ (r10 : Int32) (I11 : Nat → Nat → Int32), zCall (d + 2) mX7_nextNumber [.ref 53, .int 0, .int 99] (zh b I7 L) (some (.int r10), zh b I11 L) ∧ ((¬ r10 = (-1) → (∃ (I14 : Nat → Nat → Int32), zCall (d + 2) mX4_addRunner [.ref o, .int r2, .int r6, .int r10] (zh b I11 L) (none, zh b I14 L) ∧ (∃ (r16 : Bool) (I17 : Nat → Nat → Int32), zCall (d + 2) mX7_nextIsSemicolon [.ref 53] (zh b I14 L) (some (.int (zB r16)), zh b I17 L) ∧ R = (some (.int (zB r16)), zh b I17 L)))) ∧ (r10 = (-1) → R = (some (.int 0), zh b I11 L))))) ∧ (r6 = (-1) → ((¬ ((-1) : Int32) = (-1) → (∃ (I20 : Nat → Nat → Int32), zCall (d + 2) mX4_addRunner [.ref o, .int r2, .int r6, .int (-1)] (zh b I7 L) (none, zh b I20 L) ∧ (∃ (r22 : Bool) (I23 : Nat → Nat → Int32), zCall (d + 2) mX7_nextIsSemicolon [.ref 53] (zh b I20 L) (some (.int (zB r22)), zh b I23 L) ∧ R = (some (.int (zB r22)), zh b I23 L)))) ∧ (((-1) : Int32) = (-1) → R = (some (.int 0), zh b I7 L))))))) ∧ (r2 = (-1) → ((¬ ((-1) : Int32) = (-1) → (∃ (r26 : Int32) (I27 : Nat → Nat → Int32), zCall (d + 2) mX7_nextNumber [.ref 53, .int 0, .int 99] (zh b I3 L) (some (.int r26), zh b I27 L) ∧ ((¬ r26 = (-1) → (∃ (I30 : Nat → Nat → Int32), zCall (d + 2) mX4_addRunner [.ref o, .int r2, .int (-1), .int r26] (zh b I27 L) (none, zh b I30 L) ∧ (∃ (r32 : Bool) (I33 : Nat → Nat → Int32), zCall (d + 2) mX7_nextIsSemicolon [.ref 53] (zh b I30 L) (some (.int (zB r32)), zh b I33 L) ∧ R = (some (.int (zB r32)), zh b I33 L)))) ∧ (r26 = (-1) → R = (some (.int 0), zh b I27 L))))) ∧ (((-1) : Int32) = (-1) → ((¬ ((-1) : Int32) = (-1) → (∃ (I36 : Nat → Nat → Int32), zCall (d + 2) mX4_addRunner [.ref o, .int r2, .int (-1), .int (-1)] (zh b I3 L) (none, zh b I36 L) ∧ (∃ (r38 : Bool) (I39 : Nat → Nat → Int32), zCall (d + 2) mX7_nextIsSemicolon [.ref 53] (zh b I36 L) (some (.int (zB r38)), zh b I39 L) ∧ R = (some (.int (zB r38)), zh b I39 L)))) ∧ (((-1) : Int32) = (-1) → R = (some (.int 0), zh b I3 L))))))))) ∧ (¬ (I o 2) < 6 → R = (some (.int 0), zh b I L)))) :
    zA G (d + 3) mX7_readRunner 0 [some (.ref 53), some (.ref o), none, none, none] [] (zh b I L) R := by
  refine zi_aload_n dX7_readRunner_0 rfl rfl ?_
  refine zg_getI (k := 2) dX7_readRunner_1 zc4 ho.sh ho.l0 (Nat.le_of_ble_eq_true rfl) u_49 rfl ?_
  refine zi_bipush (v := 6) dX7_readRunner_4 (by decide) ?_
  refine zi_icmp_lt (tgt := 11) dX7_readRunner_6 (by decide) (fun c1 => ?_) (fun c1 => ?_)
  · have K := K.1 c1
    refine zi_aload_n dX7_readRunner_11 rfl rfl ?_
    refine zi_iconst (v := 0) dX7_readRunner_12 (by decide) ?_
    refine zi_iconst (v := 4) dX7_readRunner_13 (by decide) ?_
    obtain ⟨r2, I3, h4, K⟩ := K
    refine zi_callV (N := mX7_nextNumber) (av := [.int 0, .int 4]) (st := []) (R1 := (some (.int r2), zh b I3 L)) dX7_readRunner_14 okX7_nextNumber u_431 u_433 s_5 zc7 (rfl) (Nat.le_of_ble_eq_true rfl) arX7_nextNumber rfl (Nat.le_of_ble_eq_true rfl) (h4) hR ?_
    show zA G (d + 3) mX7_readRunner 17 [some (.ref 53), some (.ref o), none, none, none] [.int r2] (zh b I3 L) R
    refine zi_istore_n (ls' := [some (.ref 53), some (.ref o), some (.int r2), none, none]) dX7_readRunner_17 rfl (by decide) rfl ?_
    refine zi_iload_n dX7_readRunner_18 rfl rfl ?_
    refine zi_iconst (v := (-1)) dX7_readRunner_19 (by decide) ?_
    refine zi_icmp_ne (tgt := 27) dX7_readRunner_20 (by decide) (fun c5 => ?_) (fun c5 => ?_)
    · have K := K.1 c5
      refine zi_aload_n dX7_readRunner_27 rfl rfl ?_
      refine zi_iconst (v := 0) dX7_readRunner_28 (by decide) ?_
      refine zi_aload_n dX7_readRunner_29 rfl rfl ?_
      refine zg_getI (k := 1) dX7_readRunner_30 zc4 ho.sh ho.l0 (Nat.le_of_ble_eq_true rfl) u_45 rfl ?_
      refine zi_iconst (v := 1) dX7_readRunner_33 (by decide) ?_
      refine zi_isub dX7_readRunner_34 ?_
      obtain ⟨r6, I7, h8, K⟩ := K
      refine zi_callV (N := mX7_nextNumber) (av := [.int 0, .int ((I3 o 1) - 1)]) (st := []) (R1 := (some (.int r6), zh b I7 L)) dX7_readRunner_35 okX7_nextNumber u_431 u_433 s_5 zc7 (rfl) (Nat.le_of_ble_eq_true rfl) arX7_nextNumber rfl (Nat.le_of_ble_eq_true rfl) (h8) hR ?_
      show zA G (d + 3) mX7_readRunner 38 [some (.ref 53), some (.ref o), some (.int r2), none, none] [.int r6] (zh b I7 L) R
      refine zi_istore_n (ls' := [some (.ref 53), some (.ref o), some (.int r2), some (.int r6), none]) dX7_readRunner_38 rfl (by decide) rfl ?_
      refine zi_iload_n dX7_readRunner_39 rfl rfl ?_
      refine zi_iconst (v := (-1)) dX7_readRunner_40 (by decide) ?_
      refine zi_icmp_ne (tgt := 48) dX7_readRunner_41 (by decide) (fun c9 => ?_) (fun c9 => ?_)
      · have K := K.1 c9
        refine zi_aload_n dX7_readRunner_48 rfl rfl ?_
        refine zi_iconst (v := 0) dX7_readRunner_49 (by decide) ?_
        refine zi_bipush (v := 99) dX7_readRunner_50 (by decide) ?_
        obtain ⟨r10, I11, h12, K⟩ := K
        refine zi_callV (N := mX7_nextNumber) (av := [.int 0, .int 99]) (st := []) (R1 := (some (.int r10), zh b I11 L)) dX7_readRunner_52 okX7_nextNumber u_431 u_433 s_5 zc7 (rfl) (Nat.le_of_ble_eq_true rfl) arX7_nextNumber rfl (Nat.le_of_ble_eq_true rfl) (h12) hR ?_
        show zA G (d + 3) mX7_readRunner 55 [some (.ref 53), some (.ref o), some (.int r2), some (.int r6), none] [.int r10] (zh b I11 L) R
        refine zi_istore (ls' := [some (.ref 53), some (.ref o), some (.int r2), some (.int r6), some (.int r10)]) dX7_readRunner_55 (by decide) rfl ?_
        refine zi_iload dX7_readRunner_57 rfl ?_
        refine zi_iconst (v := (-1)) dX7_readRunner_59 (by decide) ?_
        refine zi_icmp_ne (tgt := 65) dX7_readRunner_60 (by decide) (fun c13 => ?_) (fun c13 => ?_)
        · have K := K.1 c13
          refine zi_aload_n dX7_readRunner_65 rfl rfl ?_
          refine zi_iload_n dX7_readRunner_66 rfl rfl ?_
          refine zi_iload_n dX7_readRunner_67 rfl rfl ?_
          refine zi_iload dX7_readRunner_68 rfl ?_
          obtain ⟨I14, h15, K⟩ := K
          refine zi_callV (N := mX4_addRunner) (av := [.int r2, .int r6, .int r10]) (st := []) (R1 := (none, zh b I14 L)) dX7_readRunner_70 okX4_addRunner u_457 u_330 u_331 zc4 (ho.sh) ho.l0 arX4_addRunner rfl (Nat.le_of_ble_eq_true rfl) (h15) hR ?_
          show zA G (d + 3) mX7_readRunner 73 [some (.ref 53), some (.ref o), some (.int r2), some (.int r6), some (.int r10)] [] (zh b I14 L) R
          refine zi_aload_n dX7_readRunner_73 rfl rfl ?_
          obtain ⟨r16, I17, h18, K⟩ := K
          refine zi_callV (N := mX7_nextIsSemicolon) (av := []) (st := []) (R1 := (some (.int (zB r16)), zh b I17 L)) dX7_readRunner_74 okX7_nextIsSemicolon u_437 u_439 s_6 zc7 (rfl) (Nat.le_of_ble_eq_true rfl) arX7_nextIsSemicolon rfl (Nat.le_of_ble_eq_true rfl) (h18) hR ?_
          show zA G (d + 3) mX7_readRunner 77 [some (.ref 53), some (.ref o), some (.int r2), some (.int r6), some (.int r10)] [.int (zB r16)] (zh b I17 L) R
          subst K
          exact zi_ireturn dX7_readRunner_77 rfl (znB _)
        · have K := K.2 c13
          refine zi_iconst (v := 0) dX7_readRunner_63 (by decide) ?_
          subst K
          exact zi_ireturn dX7_readRunner_64 rfl (by decide)
      · have K := K.2 c9
        refine zi_iconst (v := (-1)) dX7_readRunner_44 (by decide) ?_
        refine zi_goto (tgt := 55) dX7_readRunner_45 (by decide) ?_
        refine zi_istore (ls' := [some (.ref 53), some (.ref o), some (.int r2), some (.int r6), some (.int (-1))]) dX7_readRunner_55 (by decide) rfl ?_
        refine zi_iload dX7_readRunner_57 rfl ?_
        refine zi_iconst (v := (-1)) dX7_readRunner_59 (by decide) ?_
        refine zi_icmp_ne (tgt := 65) dX7_readRunner_60 (by decide) (fun c19 => ?_) (fun c19 => ?_)
        · have K := K.1 c19
          refine zi_aload_n dX7_readRunner_65 rfl rfl ?_
          refine zi_iload_n dX7_readRunner_66 rfl rfl ?_
          refine zi_iload_n dX7_readRunner_67 rfl rfl ?_
          refine zi_iload dX7_readRunner_68 rfl ?_
          obtain ⟨I20, h21, K⟩ := K
          refine zi_callV (N := mX4_addRunner) (av := [.int r2, .int r6, .int (-1)]) (st := []) (R1 := (none, zh b I20 L)) dX7_readRunner_70 okX4_addRunner u_457 u_330 u_331 zc4 (ho.sh) ho.l0 arX4_addRunner rfl (Nat.le_of_ble_eq_true rfl) (h21) hR ?_
          show zA G (d + 3) mX7_readRunner 73 [some (.ref 53), some (.ref o), some (.int r2), some (.int r6), some (.int (-1))] [] (zh b I20 L) R
          refine zi_aload_n dX7_readRunner_73 rfl rfl ?_
          obtain ⟨r22, I23, h24, K⟩ := K
          refine zi_callV (N := mX7_nextIsSemicolon) (av := []) (st := []) (R1 := (some (.int (zB r22)), zh b I23 L)) dX7_readRunner_74 okX7_nextIsSemicolon u_437 u_439 s_6 zc7 (rfl) (Nat.le_of_ble_eq_true rfl) arX7_nextIsSemicolon rfl (Nat.le_of_ble_eq_true rfl) (h24) hR ?_
          show zA G (d + 3) mX7_readRunner 77 [some (.ref 53), some (.ref o), some (.int r2), some (.int r6), some (.int (-1))] [.int (zB r22)] (zh b I23 L) R
          subst K
          exact zi_ireturn dX7_readRunner_77 rfl (znB _)
        · have K := K.2 c19
          refine zi_iconst (v := 0) dX7_readRunner_63 (by decide) ?_
          subst K
          exact zi_ireturn dX7_readRunner_64 rfl (by decide)
    · have K := K.2 c5
      refine zi_iconst (v := (-1)) dX7_readRunner_23 (by decide) ?_
      refine zi_goto (tgt := 38) dX7_readRunner_24 (by decide) ?_
      refine zi_istore_n (ls' := [some (.ref 53), some (.ref o), some (.int r2), some (.int (-1)), none]) dX7_readRunner_38 rfl (by decide) rfl ?_
      refine zi_iload_n dX7_readRunner_39 rfl rfl ?_
      refine zi_iconst (v := (-1)) dX7_readRunner_40 (by decide) ?_
      refine zi_icmp_ne (tgt := 48) dX7_readRunner_41 (by decide) (fun c25 => ?_) (fun c25 => ?_)
      · have K := K.1 c25
        refine zi_aload_n dX7_readRunner_48 rfl rfl ?_
        refine zi_iconst (v := 0) dX7_readRunner_49 (by decide) ?_
        refine zi_bipush (v := 99) dX7_readRunner_50 (by decide) ?_
        obtain ⟨r26, I27, h28, K⟩ := K
        refine zi_callV (N := mX7_nextNumber) (av := [.int 0, .int 99]) (st := []) (R1 := (some (.int r26), zh b I27 L)) dX7_readRunner_52 okX7_nextNumber u_431 u_433 s_5 zc7 (rfl) (Nat.le_of_ble_eq_true rfl) arX7_nextNumber rfl (Nat.le_of_ble_eq_true rfl) (h28) hR ?_
        show zA G (d + 3) mX7_readRunner 55 [some (.ref 53), some (.ref o), some (.int r2), some (.int (-1)), none] [.int r26] (zh b I27 L) R
        refine zi_istore (ls' := [some (.ref 53), some (.ref o), some (.int r2), some (.int (-1)), some (.int r26)]) dX7_readRunner_55 (by decide) rfl ?_
        refine zi_iload dX7_readRunner_57 rfl ?_
        refine zi_iconst (v := (-1)) dX7_readRunner_59 (by decide) ?_
        refine zi_icmp_ne (tgt := 65) dX7_readRunner_60 (by decide) (fun c29 => ?_) (fun c29 => ?_)
        · have K := K.1 c29
          refine zi_aload_n dX7_readRunner_65 rfl rfl ?_
          refine zi_iload_n dX7_readRunner_66 rfl rfl ?_
          refine zi_iload_n dX7_readRunner_67 rfl rfl ?_
          refine zi_iload dX7_readRunner_68 rfl ?_
          obtain ⟨I30, h31, K⟩ := K
          refine zi_callV (N := mX4_addRunner) (av := [.int r2, .int (-1), .int r26]) (st := []) (R1 := (none, zh b I30 L)) dX7_readRunner_70 okX4_addRunner u_457 u_330 u_331 zc4 (ho.sh) ho.l0 arX4_addRunner rfl (Nat.le_of_ble_eq_true rfl) (h31) hR ?_
          show zA G (d + 3) mX7_readRunner 73 [some (.ref 53), some (.ref o), some (.int r2), some (.int (-1)), some (.int r26)] [] (zh b I30 L) R
          refine zi_aload_n dX7_readRunner_73 rfl rfl ?_
          obtain ⟨r32, I33, h34, K⟩ := K
          refine zi_callV (N := mX7_nextIsSemicolon) (av := []) (st := []) (R1 := (some (.int (zB r32)), zh b I33 L)) dX7_readRunner_74 okX7_nextIsSemicolon u_437 u_439 s_6 zc7 (rfl) (Nat.le_of_ble_eq_true rfl) arX7_nextIsSemicolon rfl (Nat.le_of_ble_eq_true rfl) (h34) hR ?_
          show zA G (d + 3) mX7_readRunner 77 [some (.ref 53), some (.ref o), some (.int r2), some (.int (-1)), some (.int r26)] [.int (zB r32)] (zh b I33 L) R
          subst K
          exact zi_ireturn dX7_readRunner_77 rfl (znB _)
        · have K := K.2 c29
          refine zi_iconst (v := 0) dX7_readRunner_63 (by decide) ?_
          subst K
          exact zi_ireturn dX7_readRunner_64 rfl (by decide)
      · have K := K.2 c25
        refine zi_iconst (v := (-1)) dX7_readRunner_44 (by decide) ?_
        refine zi_goto (tgt := 55) dX7_readRunner_45 (by decide) ?_
        refine zi_istore (ls' := [some (.ref 53), some (.ref o), some (.int r2), some (.int (-1)), some (.int (-1))]) dX7_readRunner_55 (by decide) rfl ?_
        refine zi_iload dX7_readRunner_57 rfl ?_
        refine zi_iconst (v := (-1)) dX7_readRunner_59 (by decide) ?_
        refine zi_icmp_ne (tgt := 65) dX7_readRunner_60 (by decide) (fun c35 => ?_) (fun c35 => ?_)
        · have K := K.1 c35
          refine zi_aload_n dX7_readRunner_65 rfl rfl ?_
          refine zi_iload_n dX7_readRunner_66 rfl rfl ?_
          refine zi_iload_n dX7_readRunner_67 rfl rfl ?_
          refine zi_iload dX7_readRunner_68 rfl ?_
          obtain ⟨I36, h37, K⟩ := K
          refine zi_callV (N := mX4_addRunner) (av := [.int r2, .int (-1), .int (-1)]) (st := []) (R1 := (none, zh b I36 L)) dX7_readRunner_70 okX4_addRunner u_457 u_330 u_331 zc4 (ho.sh) ho.l0 arX4_addRunner rfl (Nat.le_of_ble_eq_true rfl) (h37) hR ?_
          show zA G (d + 3) mX7_readRunner 73 [some (.ref 53), some (.ref o), some (.int r2), some (.int (-1)), some (.int (-1))] [] (zh b I36 L) R
          refine zi_aload_n dX7_readRunner_73 rfl rfl ?_
          obtain ⟨r38, I39, h40, K⟩ := K
          refine zi_callV (N := mX7_nextIsSemicolon) (av := []) (st := []) (R1 := (some (.int (zB r38)), zh b I39 L)) dX7_readRunner_74 okX7_nextIsSemicolon u_437 u_439 s_6 zc7 (rfl) (Nat.le_of_ble_eq_true rfl) arX7_nextIsSemicolon rfl (Nat.le_of_ble_eq_true rfl) (h40) hR ?_
          show zA G (d + 3) mX7_readRunner 77 [some (.ref 53), some (.ref o), some (.int r2), some (.int (-1)), some (.int (-1))] [.int (zB r38)] (zh b I39 L) R
          subst K
          exact zi_ireturn dX7_readRunner_77 rfl (znB _)
        · have K := K.2 c35
          refine zi_iconst (v := 0) dX7_readRunner_63 (by decide) ?_
          subst K
          exact zi_ireturn dX7_readRunner_64 rfl (by decide)
  · have K := K.2 c1
    refine zi_iconst (v := 0) dX7_readRunner_9 (by decide) ?_
    subst K
    exact zi_ireturn dX7_readRunner_10 rfl (by decide)
set_option maxRecDepth 100000 in
theorem tX7_readLine_0 {G : zG} {d b : Nat} {I : Nat → Nat → Int32} {L : Nat → Nat → Int64} {R : zR}  {o : Nat} (ho : zhl o) (hR : zR0 R)
    (K : (∃ (r1 : Int32) (I2 : Nat → Nat → Int32), zCall (d + 2) mX7_nextNumber [.ref 53, .int 0, .int ((I o 2) - 1)] (zh b I L) (some (.int r1), zh b I2 L) ∧ ((¬ r1 = (-1) → (∃ (r5 : Int32) (I6 : Nat → Nat → Int32), zCall (d + 2) mX7_nextNumber [.ref 53, .int 0, .int ((I2 o 0) - 1)] (zh b I2 L) (some (.int r5), zh b I6 L) ∧ ((¬ r5 = (-1) → (∃ (r9 : Int32) (I10 : Nat → Nat → Int32), zCall (d + 2) mX7_nextNumber [.ref 53, .int 0, .int 2] (zh b I6 L) (some (.int r9), zh b I10 L) ∧ ((¬ r9 = (-1) → (vp_in ((r1 * 8) + r5) 48 ∧ (∃ (r14 : Bool) (I15 : Nat → Nat → Int32), zCall (d + 2) mX7_nextIsSemicolon [.ref 53] (zh b (zup I10 (o + 6) (zx ((r1 * 8) + r5)) r9) L) (some (.int (zB r14)), zh b I15 L) ∧ R = (some (.int (zB r14)), zh b I15 L)))) ∧ (r9 = (-1) → R = (some (.int 0), zh b I10 L))))) ∧ (r5 = (-1) → ((¬ ((-1) : Int32) = (-1) → (vp_in ((r1 * 8) + r5) 48 ∧ (∃ (r19 : Bool) (I20 : Nat → Nat → Int32), zCall (d + 2) mX7_nextIsSemicolon [.ref 53] (zh b (zup I6 (o + 6) (zx ((r1 * 8) + r5)) (-1)) L) (some (.int (zB r19)), zh b I20 L) ∧ R = (some (.int (zB r19)), zh b I20 L)))) ∧ (((-1) : Int32) = (-1) → R = (some (.int 0), zh b I6 L))))))) ∧ (r1 = (-1) → ((¬ ((-1) : Int32) = (-1) → (∃ (r23 : Int32) (I24 : Nat → Nat → Int32), zCall (d + 2) mX7_nextNumber [.ref 53, .int 0, .int 2] (zh b I2 L) (some (.int r23), zh b I24 L) ∧ ((¬ r23 = (-1) → (vp_in ((r1 * 8) + (-1)) 48 ∧ (∃ (r28 : Bool) (I29 : Nat → Nat → Int32), zCall (d + 2) mX7_nextIsSemicolon [.ref 53] (zh b (zup I24 (o + 6) (zx ((r1 * 8) + (-1))) r23) L) (some (.int (zB r28)), zh b I29 L) ∧ R = (some (.int (zB r28)), zh b I29 L)))) ∧ (r23 = (-1) → R = (some (.int 0), zh b I24 L))))) ∧ (((-1) : Int32) = (-1) → ((¬ ((-1) : Int32) = (-1) → (vp_in ((r1 * 8) + (-1)) 48 ∧ (∃ (r33 : Bool) (I34 : Nat → Nat → Int32), zCall (d + 2) mX7_nextIsSemicolon [.ref 53] (zh b (zup I2 (o + 6) (zx ((r1 * 8) + (-1))) (-1)) L) (some (.int (zB r33)), zh b I34 L) ∧ R = (some (.int (zB r33)), zh b I34 L)))) ∧ (((-1) : Int32) = (-1) → R = (some (.int 0), zh b I2 L))))))))) :
    zA G (d + 3) mX7_readLine 0 [some (.ref 53), some (.ref o), none, none, none] [] (zh b I L) R := by
  refine zi_aload_n dX7_readLine_0 rfl rfl ?_
  refine zi_iconst (v := 0) dX7_readLine_1 (by decide) ?_
  refine zi_aload_n dX7_readLine_2 rfl rfl ?_
  refine zg_getI (k := 2) dX7_readLine_3 zc4 ho.sh ho.l0 (Nat.le_of_ble_eq_true rfl) u_49 rfl ?_
  refine zi_iconst (v := 1) dX7_readLine_6 (by decide) ?_
  refine zi_isub dX7_readLine_7 ?_
  obtain ⟨r1, I2, h3, K⟩ := K
  refine zi_callV (N := mX7_nextNumber) (av := [.int 0, .int ((I o 2) - 1)]) (st := []) (R1 := (some (.int r1), zh b I2 L)) dX7_readLine_8 okX7_nextNumber u_431 u_433 s_5 zc7 (rfl) (Nat.le_of_ble_eq_true rfl) arX7_nextNumber rfl (Nat.le_of_ble_eq_true rfl) (h3) hR ?_
  show zA G (d + 3) mX7_readLine 11 [some (.ref 53), some (.ref o), none, none, none] [.int r1] (zh b I2 L) R
  refine zi_istore_n (ls' := [some (.ref 53), some (.ref o), some (.int r1), none, none]) dX7_readLine_11 rfl (by decide) rfl ?_
  refine zi_iload_n dX7_readLine_12 rfl rfl ?_
  refine zi_iconst (v := (-1)) dX7_readLine_13 (by decide) ?_
  refine zi_icmp_ne (tgt := 21) dX7_readLine_14 (by decide) (fun c4 => ?_) (fun c4 => ?_)
  · have K := K.1 c4
    refine zi_aload_n dX7_readLine_21 rfl rfl ?_
    refine zi_iconst (v := 0) dX7_readLine_22 (by decide) ?_
    refine zi_aload_n dX7_readLine_23 rfl rfl ?_
    refine zg_getI (k := 0) dX7_readLine_24 zc4 ho.sh ho.l0 (Nat.le_of_ble_eq_true rfl) u_40 rfl ?_
    refine zi_iconst (v := 1) dX7_readLine_27 (by decide) ?_
    refine zi_isub dX7_readLine_28 ?_
    obtain ⟨r5, I6, h7, K⟩ := K
    refine zi_callV (N := mX7_nextNumber) (av := [.int 0, .int ((I2 o 0) - 1)]) (st := []) (R1 := (some (.int r5), zh b I6 L)) dX7_readLine_29 okX7_nextNumber u_431 u_433 s_5 zc7 (rfl) (Nat.le_of_ble_eq_true rfl) arX7_nextNumber rfl (Nat.le_of_ble_eq_true rfl) (h7) hR ?_
    show zA G (d + 3) mX7_readLine 32 [some (.ref 53), some (.ref o), some (.int r1), none, none] [.int r5] (zh b I6 L) R
    refine zi_istore_n (ls' := [some (.ref 53), some (.ref o), some (.int r1), some (.int r5), none]) dX7_readLine_32 rfl (by decide) rfl ?_
    refine zi_iload_n dX7_readLine_33 rfl rfl ?_
    refine zi_iconst (v := (-1)) dX7_readLine_34 (by decide) ?_
    refine zi_icmp_ne (tgt := 42) dX7_readLine_35 (by decide) (fun c8 => ?_) (fun c8 => ?_)
    · have K := K.1 c8
      refine zi_aload_n dX7_readLine_42 rfl rfl ?_
      refine zi_iconst (v := 0) dX7_readLine_43 (by decide) ?_
      refine zi_iconst (v := 2) dX7_readLine_44 (by decide) ?_
      obtain ⟨r9, I10, h11, K⟩ := K
      refine zi_callV (N := mX7_nextNumber) (av := [.int 0, .int 2]) (st := []) (R1 := (some (.int r9), zh b I10 L)) dX7_readLine_45 okX7_nextNumber u_431 u_433 s_5 zc7 (rfl) (Nat.le_of_ble_eq_true rfl) arX7_nextNumber rfl (Nat.le_of_ble_eq_true rfl) (h11) hR ?_
      show zA G (d + 3) mX7_readLine 48 [some (.ref 53), some (.ref o), some (.int r1), some (.int r5), none] [.int r9] (zh b I10 L) R
      refine zi_istore (ls' := [some (.ref 53), some (.ref o), some (.int r1), some (.int r5), some (.int r9)]) dX7_readLine_48 (by decide) rfl ?_
      refine zi_iload dX7_readLine_50 rfl ?_
      refine zi_iconst (v := (-1)) dX7_readLine_52 (by decide) ?_
      refine zi_icmp_ne (tgt := 58) dX7_readLine_53 (by decide) (fun c12 => ?_) (fun c12 => ?_)
      · have K := K.1 c12
        refine zi_aload_n dX7_readLine_58 rfl rfl ?_
        refine zg_getF (k := 10) (v := .ref (o + 6)) dX7_readLine_59 zc4 ho.sh ho.l0 (Nat.le_of_ble_eq_true rfl) u_76 rfl (ho.f10) ?_
        refine zi_iload_n dX7_readLine_62 rfl rfl ?_
        refine zi_iload_n dX7_readLine_63 rfl rfl ?_
        refine zi_callSN (N := mX11_onLine) (av := [.int r1, .int r5]) (st := [.ref (o + 6)]) (R1 := (some (.int ((r1 * 8) + r5)), zh b I10 L)) dX7_readLine_64 okX11_onLine (by decide) u_334 arX11_onLine rfl (Nat.le_of_ble_eq_true rfl) (kX11_onLine _ _) hR ?_
        show zA G (d + 3) mX7_readLine 67 [some (.ref 53), some (.ref o), some (.int r1), some (.int r5), some (.int r9)] [.int ((r1 * 8) + r5), .ref (o + 6)] (zh b I10 L) R
        refine zi_iload dX7_readLine_67 rfl ?_
        have o13 := K.1
        have K := K.2
        refine zg_iastore dX7_readLine_69 (ho.s6) (ho.lt 6 (Nat.le_of_ble_eq_true rfl)) o13 ?_
        refine zi_aload_n dX7_readLine_70 rfl rfl ?_
        obtain ⟨r14, I15, h16, K⟩ := K
        refine zi_callV (N := mX7_nextIsSemicolon) (av := []) (st := []) (R1 := (some (.int (zB r14)), zh b I15 L)) dX7_readLine_71 okX7_nextIsSemicolon u_437 u_439 s_6 zc7 (rfl) (Nat.le_of_ble_eq_true rfl) arX7_nextIsSemicolon rfl (Nat.le_of_ble_eq_true rfl) (h16) hR ?_
        show zA G (d + 3) mX7_readLine 74 [some (.ref 53), some (.ref o), some (.int r1), some (.int r5), some (.int r9)] [.int (zB r14)] (zh b I15 L) R
        subst K
        exact zi_ireturn dX7_readLine_74 rfl (znB _)
      · have K := K.2 c12
        refine zi_iconst (v := 0) dX7_readLine_56 (by decide) ?_
        subst K
        exact zi_ireturn dX7_readLine_57 rfl (by decide)
    · have K := K.2 c8
      refine zi_iconst (v := (-1)) dX7_readLine_38 (by decide) ?_
      refine zi_goto (tgt := 48) dX7_readLine_39 (by decide) ?_
      refine zi_istore (ls' := [some (.ref 53), some (.ref o), some (.int r1), some (.int r5), some (.int (-1))]) dX7_readLine_48 (by decide) rfl ?_
      refine zi_iload dX7_readLine_50 rfl ?_
      refine zi_iconst (v := (-1)) dX7_readLine_52 (by decide) ?_
      refine zi_icmp_ne (tgt := 58) dX7_readLine_53 (by decide) (fun c17 => ?_) (fun c17 => ?_)
      · have K := K.1 c17
        refine zi_aload_n dX7_readLine_58 rfl rfl ?_
        refine zg_getF (k := 10) (v := .ref (o + 6)) dX7_readLine_59 zc4 ho.sh ho.l0 (Nat.le_of_ble_eq_true rfl) u_76 rfl (ho.f10) ?_
        refine zi_iload_n dX7_readLine_62 rfl rfl ?_
        refine zi_iload_n dX7_readLine_63 rfl rfl ?_
        refine zi_callSN (N := mX11_onLine) (av := [.int r1, .int r5]) (st := [.ref (o + 6)]) (R1 := (some (.int ((r1 * 8) + r5)), zh b I6 L)) dX7_readLine_64 okX11_onLine (by decide) u_334 arX11_onLine rfl (Nat.le_of_ble_eq_true rfl) (kX11_onLine _ _) hR ?_
        show zA G (d + 3) mX7_readLine 67 [some (.ref 53), some (.ref o), some (.int r1), some (.int r5), some (.int (-1))] [.int ((r1 * 8) + r5), .ref (o + 6)] (zh b I6 L) R
        refine zi_iload dX7_readLine_67 rfl ?_
        have o18 := K.1
        have K := K.2
        refine zg_iastore dX7_readLine_69 (ho.s6) (ho.lt 6 (Nat.le_of_ble_eq_true rfl)) o18 ?_
        refine zi_aload_n dX7_readLine_70 rfl rfl ?_
        obtain ⟨r19, I20, h21, K⟩ := K
        refine zi_callV (N := mX7_nextIsSemicolon) (av := []) (st := []) (R1 := (some (.int (zB r19)), zh b I20 L)) dX7_readLine_71 okX7_nextIsSemicolon u_437 u_439 s_6 zc7 (rfl) (Nat.le_of_ble_eq_true rfl) arX7_nextIsSemicolon rfl (Nat.le_of_ble_eq_true rfl) (h21) hR ?_
        show zA G (d + 3) mX7_readLine 74 [some (.ref 53), some (.ref o), some (.int r1), some (.int r5), some (.int (-1))] [.int (zB r19)] (zh b I20 L) R
        subst K
        exact zi_ireturn dX7_readLine_74 rfl (znB _)
      · have K := K.2 c17
        refine zi_iconst (v := 0) dX7_readLine_56 (by decide) ?_
        subst K
        exact zi_ireturn dX7_readLine_57 rfl (by decide)
  · have K := K.2 c4
    refine zi_iconst (v := (-1)) dX7_readLine_17 (by decide) ?_
    refine zi_goto (tgt := 32) dX7_readLine_18 (by decide) ?_
    refine zi_istore_n (ls' := [some (.ref 53), some (.ref o), some (.int r1), some (.int (-1)), none]) dX7_readLine_32 rfl (by decide) rfl ?_
    refine zi_iload_n dX7_readLine_33 rfl rfl ?_
    refine zi_iconst (v := (-1)) dX7_readLine_34 (by decide) ?_
    refine zi_icmp_ne (tgt := 42) dX7_readLine_35 (by decide) (fun c22 => ?_) (fun c22 => ?_)
    · have K := K.1 c22
      refine zi_aload_n dX7_readLine_42 rfl rfl ?_
      refine zi_iconst (v := 0) dX7_readLine_43 (by decide) ?_
      refine zi_iconst (v := 2) dX7_readLine_44 (by decide) ?_
      obtain ⟨r23, I24, h25, K⟩ := K
      refine zi_callV (N := mX7_nextNumber) (av := [.int 0, .int 2]) (st := []) (R1 := (some (.int r23), zh b I24 L)) dX7_readLine_45 okX7_nextNumber u_431 u_433 s_5 zc7 (rfl) (Nat.le_of_ble_eq_true rfl) arX7_nextNumber rfl (Nat.le_of_ble_eq_true rfl) (h25) hR ?_
      show zA G (d + 3) mX7_readLine 48 [some (.ref 53), some (.ref o), some (.int r1), some (.int (-1)), none] [.int r23] (zh b I24 L) R
      refine zi_istore (ls' := [some (.ref 53), some (.ref o), some (.int r1), some (.int (-1)), some (.int r23)]) dX7_readLine_48 (by decide) rfl ?_
      refine zi_iload dX7_readLine_50 rfl ?_
      refine zi_iconst (v := (-1)) dX7_readLine_52 (by decide) ?_
      refine zi_icmp_ne (tgt := 58) dX7_readLine_53 (by decide) (fun c26 => ?_) (fun c26 => ?_)
      · have K := K.1 c26
        refine zi_aload_n dX7_readLine_58 rfl rfl ?_
        refine zg_getF (k := 10) (v := .ref (o + 6)) dX7_readLine_59 zc4 ho.sh ho.l0 (Nat.le_of_ble_eq_true rfl) u_76 rfl (ho.f10) ?_
        refine zi_iload_n dX7_readLine_62 rfl rfl ?_
        refine zi_iload_n dX7_readLine_63 rfl rfl ?_
        refine zi_callSN (N := mX11_onLine) (av := [.int r1, .int (-1)]) (st := [.ref (o + 6)]) (R1 := (some (.int ((r1 * 8) + (-1))), zh b I24 L)) dX7_readLine_64 okX11_onLine (by decide) u_334 arX11_onLine rfl (Nat.le_of_ble_eq_true rfl) (kX11_onLine _ _) hR ?_
        show zA G (d + 3) mX7_readLine 67 [some (.ref 53), some (.ref o), some (.int r1), some (.int (-1)), some (.int r23)] [.int ((r1 * 8) + (-1)), .ref (o + 6)] (zh b I24 L) R
        refine zi_iload dX7_readLine_67 rfl ?_
        have o27 := K.1
        have K := K.2
        refine zg_iastore dX7_readLine_69 (ho.s6) (ho.lt 6 (Nat.le_of_ble_eq_true rfl)) o27 ?_
        refine zi_aload_n dX7_readLine_70 rfl rfl ?_
        obtain ⟨r28, I29, h30, K⟩ := K
        refine zi_callV (N := mX7_nextIsSemicolon) (av := []) (st := []) (R1 := (some (.int (zB r28)), zh b I29 L)) dX7_readLine_71 okX7_nextIsSemicolon u_437 u_439 s_6 zc7 (rfl) (Nat.le_of_ble_eq_true rfl) arX7_nextIsSemicolon rfl (Nat.le_of_ble_eq_true rfl) (h30) hR ?_
        show zA G (d + 3) mX7_readLine 74 [some (.ref 53), some (.ref o), some (.int r1), some (.int (-1)), some (.int r23)] [.int (zB r28)] (zh b I29 L) R
        subst K
        exact zi_ireturn dX7_readLine_74 rfl (znB _)
      · have K := K.2 c26
        refine zi_iconst (v := 0) dX7_readLine_56 (by decide) ?_
        subst K
        exact zi_ireturn dX7_readLine_57 rfl (by decide)
    · have K := K.2 c22
      refine zi_iconst (v := (-1)) dX7_readLine_38 (by decide) ?_
      refine zi_goto (tgt := 48) dX7_readLine_39 (by decide) ?_
      refine zi_istore (ls' := [some (.ref 53), some (.ref o), some (.int r1), some (.int (-1)), some (.int (-1))]) dX7_readLine_48 (by decide) rfl ?_
      refine zi_iload dX7_readLine_50 rfl ?_
      refine zi_iconst (v := (-1)) dX7_readLine_52 (by decide) ?_
      refine zi_icmp_ne (tgt := 58) dX7_readLine_53 (by decide) (fun c31 => ?_) (fun c31 => ?_)
      · have K := K.1 c31
        refine zi_aload_n dX7_readLine_58 rfl rfl ?_
        refine zg_getF (k := 10) (v := .ref (o + 6)) dX7_readLine_59 zc4 ho.sh ho.l0 (Nat.le_of_ble_eq_true rfl) u_76 rfl (ho.f10) ?_
        refine zi_iload_n dX7_readLine_62 rfl rfl ?_
        refine zi_iload_n dX7_readLine_63 rfl rfl ?_
        refine zi_callSN (N := mX11_onLine) (av := [.int r1, .int (-1)]) (st := [.ref (o + 6)]) (R1 := (some (.int ((r1 * 8) + (-1))), zh b I2 L)) dX7_readLine_64 okX11_onLine (by decide) u_334 arX11_onLine rfl (Nat.le_of_ble_eq_true rfl) (kX11_onLine _ _) hR ?_
        show zA G (d + 3) mX7_readLine 67 [some (.ref 53), some (.ref o), some (.int r1), some (.int (-1)), some (.int (-1))] [.int ((r1 * 8) + (-1)), .ref (o + 6)] (zh b I2 L) R
        refine zi_iload dX7_readLine_67 rfl ?_
        have o32 := K.1
        have K := K.2
        refine zg_iastore dX7_readLine_69 (ho.s6) (ho.lt 6 (Nat.le_of_ble_eq_true rfl)) o32 ?_
        refine zi_aload_n dX7_readLine_70 rfl rfl ?_
        obtain ⟨r33, I34, h35, K⟩ := K
        refine zi_callV (N := mX7_nextIsSemicolon) (av := []) (st := []) (R1 := (some (.int (zB r33)), zh b I34 L)) dX7_readLine_71 okX7_nextIsSemicolon u_437 u_439 s_6 zc7 (rfl) (Nat.le_of_ble_eq_true rfl) arX7_nextIsSemicolon rfl (Nat.le_of_ble_eq_true rfl) (h35) hR ?_
        show zA G (d + 3) mX7_readLine 74 [some (.ref 53), some (.ref o), some (.int r1), some (.int (-1)), some (.int (-1))] [.int (zB r33)] (zh b I34 L) R
        subst K
        exact zi_ireturn dX7_readLine_74 rfl (znB _)
      · have K := K.2 c31
        refine zi_iconst (v := 0) dX7_readLine_56 (by decide) ?_
        subst K
        exact zi_ireturn dX7_readLine_57 rfl (by decide)
set_option maxRecDepth 100000 in
theorem tX7_nextNumber_0 {G : zG} {d b : Nat} {I : Nat → Nat → Int32} {L : Nat → Nat → Int64} {R : zR} {x1 : Int32} {x2 : Int32} (hR : zR0 R)
    (K : (∃ (I1 : Nat → Nat → Int32), zCall (d + 1) mX7_nextToken [.ref 53] (zh b I L) (none, zh b I1 L) ∧ ((¬ (I1 53 4) = 2 → R = (some (.int (-1)), zh b I1 L)) ∧ ((I1 53 4) = 2 → ((((I1 53 3) - (I1 53 2)) ≤ 2 → zA G (d + 2) mX7_nextNumber 38 [some (.ref 53), some (.int x1), some (.int x2), some (.int ((I1 53 3) - (I1 53 2))), some (.int 0), some (.int (I1 53 2))] [] (zh b I1 L) R) ∧ (¬ ((I1 53 3) - (I1 53 2)) ≤ 2 → R = (some (.int (-1)), zh b I1 L))))))) :
    zA G (d + 2) mX7_nextNumber 0 [some (.ref 53), some (.int x1), some (.int x2), none, none, none] [] (zh b I L) R := by
  refine zi_aload_n dX7_nextNumber_0 rfl rfl ?_
  obtain ⟨I1, h2, K⟩ := K
  refine zi_callV (N := mX7_nextToken) (av := []) (st := []) (R1 := (none, zh b I1 L)) dX7_nextNumber_1 okX7_nextToken u_367 u_369 s_2 zc7 (rfl) (Nat.le_of_ble_eq_true rfl) arX7_nextToken rfl (Nat.le_of_ble_eq_true rfl) (h2) hR ?_
  show zA G (d + 2) mX7_nextNumber 4 [some (.ref 53), some (.int x1), some (.int x2), none, none, none] [] (zh b I1 L) R
  refine zi_aload_n dX7_nextNumber_4 rfl rfl ?_
  refine zg_getI (k := 3) dX7_nextNumber_5 zc7 rfl (Nat.le_of_ble_eq_true rfl) (Nat.le_of_ble_eq_true rfl) u_224 rfl ?_
  refine zi_aload_n dX7_nextNumber_8 rfl rfl ?_
  refine zg_getI (k := 2) dX7_nextNumber_9 zc7 rfl (Nat.le_of_ble_eq_true rfl) (Nat.le_of_ble_eq_true rfl) u_222 rfl ?_
  refine zi_isub dX7_nextNumber_12 ?_
  refine zi_istore_n (ls' := [some (.ref 53), some (.int x1), some (.int x2), some (.int ((I1 53 3) - (I1 53 2))), none, none]) dX7_nextNumber_13 rfl (by decide) rfl ?_
  refine zi_aload_n dX7_nextNumber_14 rfl rfl ?_
  refine zg_getI (k := 4) dX7_nextNumber_15 zc7 rfl (Nat.le_of_ble_eq_true rfl) (Nat.le_of_ble_eq_true rfl) u_225 rfl ?_
  refine zi_iconst (v := 2) dX7_nextNumber_18 (by decide) ?_
  refine zi_icmp_ne (tgt := 27) dX7_nextNumber_19 (by decide) (fun c3 => ?_) (fun c3 => ?_)
  · have K := K.1 c3
    refine zi_iconst (v := (-1)) dX7_nextNumber_27 (by decide) ?_
    subst K
    exact zi_ireturn dX7_nextNumber_28 rfl rfl
  · have K := K.2 c3
    refine zi_iload_n dX7_nextNumber_22 rfl rfl ?_
    refine zi_iconst (v := 2) dX7_nextNumber_23 (by decide) ?_
    refine zi_icmp_le (tgt := 29) dX7_nextNumber_24 (by decide) (fun c4 => ?_) (fun c4 => ?_)
    · have K := K.1 c4
      refine zi_iconst (v := 0) dX7_nextNumber_29 (by decide) ?_
      refine zi_istore (ls' := [some (.ref 53), some (.int x1), some (.int x2), some (.int ((I1 53 3) - (I1 53 2))), some (.int 0), none]) dX7_nextNumber_30 (by decide) rfl ?_
      refine zi_aload_n dX7_nextNumber_32 rfl rfl ?_
      refine zg_getI (k := 2) dX7_nextNumber_33 zc7 rfl (Nat.le_of_ble_eq_true rfl) (Nat.le_of_ble_eq_true rfl) u_222 rfl ?_
      refine zi_istore (ls' := [some (.ref 53), some (.int x1), some (.int x2), some (.int ((I1 53 3) - (I1 53 2))), some (.int 0), some (.int (I1 53 2))]) dX7_nextNumber_36 (by decide) rfl ?_
      exact K
    · have K := K.2 c4
      refine zi_iconst (v := (-1)) dX7_nextNumber_27 (by decide) ?_
      subst K
      exact zi_ireturn dX7_nextNumber_28 rfl rfl
set_option maxRecDepth 100000 in
theorem tX7_nextNumber_38 {G : zG} {d b : Nat} {I : Nat → Nat → Int32} {L : Nat → Nat → Int64} {R : zR} {x1 : Int32} {x2 : Int32} {x3 : Int32} {x4 : Int32} {x5 : Int32} (hR : zR0 R)
    (K : (((I 53 3) ≤ x5 → ((¬ (x1 ≤ x4 ∧ x4 ≤ x2) → R = (some (.int (-1)), zh b I L)) ∧ ((x1 ≤ x4 ∧ x4 ≤ x2) → R = (some (.int x4), zh b I L)))) ∧ (¬ (I 53 3) ≤ x5 → (vp_in x5 250 ∧ zA G (d + 2) mX7_nextNumber 38 [some (.ref 53), some (.int x1), some (.int x2), some (.int x3), some (.int (((10 * x4) + (I 54 (zx x5))) - 48)), some (.int (x5 + 1))] [] (zh b I L) R)))) :
    zA G (d + 2) mX7_nextNumber 38 [some (.ref 53), some (.int x1), some (.int x2), some (.int x3), some (.int x4), some (.int x5)] [] (zh b I L) R := by
  refine zi_iload dX7_nextNumber_38 rfl ?_
  refine zi_aload_n dX7_nextNumber_40 rfl rfl ?_
  refine zg_getI (k := 3) dX7_nextNumber_41 zc7 rfl (Nat.le_of_ble_eq_true rfl) (Nat.le_of_ble_eq_true rfl) u_224 rfl ?_
  refine zi_icmp_ge (tgt := 71) dX7_nextNumber_44 (by decide) (fun c1 => ?_) (fun c1 => ?_)
  · have K := K.1 c1
    refine zi_iload dX7_nextNumber_71 rfl ?_
    refine zi_iload_n dX7_nextNumber_73 rfl rfl ?_
    refine zi_iload_n dX7_nextNumber_74 rfl rfl ?_
    refine zi_callSN (N := mX11_within) (av := [.int x4, .int x1, .int x2]) (st := []) (R1 := (some (.int (zb (x1 ≤ x4 ∧ x4 ≤ x2))), zh b I L)) dX7_nextNumber_75 okX11_within (by decide) u_295 arX11_within rfl (Nat.le_of_ble_eq_true rfl) (kX11_within _ _ _) hR ?_
    show zA G (d + 2) mX7_nextNumber 78 [some (.ref 53), some (.int x1), some (.int x2), some (.int x3), some (.int x4), some (.int x5)] [.int (zb (x1 ≤ x4 ∧ x4 ≤ x2))] (zh b I L) R
    refine zi_if_eq (tgt := 86) dX7_nextNumber_78 (by decide) (fun c2 => ?_) (fun c2 => ?_)
    · have K := K.1 (zb_0 c2)
      refine zi_iconst (v := (-1)) dX7_nextNumber_86 (by decide) ?_
      subst K
      exact zi_ireturn dX7_nextNumber_87 rfl rfl
    · have K := K.2 (zb_1 c2)
      refine zi_iload dX7_nextNumber_81 rfl ?_
      refine zi_goto (tgt := 87) dX7_nextNumber_83 (by decide) ?_
      subst K
      exact zi_ireturn dX7_nextNumber_87 rfl rfl
  · have K := K.2 c1
    refine zi_bipush (v := 10) dX7_nextNumber_47 (by decide) ?_
    refine zi_iload dX7_nextNumber_49 rfl ?_
    refine zi_imul dX7_nextNumber_51 ?_
    refine zi_aload_n dX7_nextNumber_52 rfl rfl ?_
    refine zg_getF (k := 0) (v := .ref 54) dX7_nextNumber_53 zc7 rfl (Nat.le_of_ble_eq_true rfl) (Nat.le_of_ble_eq_true rfl) u_219 rfl (rfl) ?_
    refine zi_iload dX7_nextNumber_56 rfl ?_
    have o3 := K.1
    have K := K.2
    refine zg_iaload dX7_nextNumber_58 (rfl) (Nat.le_of_ble_eq_true rfl) o3 ?_
    refine zi_iadd dX7_nextNumber_59 ?_
    refine zi_bipush (v := 48) dX7_nextNumber_60 (by decide) ?_
    refine zi_isub dX7_nextNumber_62 ?_
    refine zi_istore (ls' := [some (.ref 53), some (.int x1), some (.int x2), some (.int x3), some (.int (((10 * x4) + (I 54 (zx x5))) - 48)), some (.int x5)]) dX7_nextNumber_63 (by decide) rfl ?_
    refine zi_iinc (v := x5 + 1) (ls' := [some (.ref 53), some (.int x1), some (.int x2), some (.int x3), some (.int (((10 * x4) + (I 54 (zx x5))) - 48)), some (.int (x5 + 1))]) dX7_nextNumber_65 rfl (by decide) rfl rfl ?_
    refine zi_goto (tgt := 38) dX7_nextNumber_68 (by decide) ?_
    exact K
set_option maxRecDepth 100000 in
theorem tX7_nextIsSemicolon_0 {G : zG} {d b : Nat} {I : Nat → Nat → Int32} {L : Nat → Nat → Int64} {R : zR}  (hR : zR0 R)
    (K : (∃ (I1 : Nat → Nat → Int32), zCall (d + 1) mX7_nextToken [.ref 53] (zh b I L) (none, zh b I1 L) ∧ ((¬ (I1 53 4) = 3 → R = (some (.int 0), zh b I1 L)) ∧ ((I1 53 4) = 3 → R = (some (.int 1), zh b I1 L))))) :
    zA G (d + 2) mX7_nextIsSemicolon 0 [some (.ref 53)] [] (zh b I L) R := by
  refine zi_aload_n dX7_nextIsSemicolon_0 rfl rfl ?_
  obtain ⟨I1, h2, K⟩ := K
  refine zi_callV (N := mX7_nextToken) (av := []) (st := []) (R1 := (none, zh b I1 L)) dX7_nextIsSemicolon_1 okX7_nextToken u_367 u_369 s_2 zc7 (rfl) (Nat.le_of_ble_eq_true rfl) arX7_nextToken rfl (Nat.le_of_ble_eq_true rfl) (h2) hR ?_
  show zA G (d + 2) mX7_nextIsSemicolon 4 [some (.ref 53)] [] (zh b I1 L) R
  refine zi_aload_n dX7_nextIsSemicolon_4 rfl rfl ?_
  refine zg_getI (k := 4) dX7_nextIsSemicolon_5 zc7 rfl (Nat.le_of_ble_eq_true rfl) (Nat.le_of_ble_eq_true rfl) u_225 rfl ?_
  refine zi_iconst (v := 3) dX7_nextIsSemicolon_8 (by decide) ?_
  refine zi_icmp_ne (tgt := 16) dX7_nextIsSemicolon_9 (by decide) (fun c3 => ?_) (fun c3 => ?_)
  · have K := K.1 c3
    refine zi_iconst (v := 0) dX7_nextIsSemicolon_16 (by decide) ?_
    subst K
    exact zi_ireturn dX7_nextIsSemicolon_17 rfl (by decide)
  · have K := K.2 c3
    refine zi_iconst (v := 1) dX7_nextIsSemicolon_12 (by decide) ?_
    refine zi_goto (tgt := 17) dX7_nextIsSemicolon_13 (by decide) ?_
    subst K
    exact zi_ireturn dX7_nextIsSemicolon_17 rfl (by decide)
set_option maxRecDepth 100000 in
theorem tX7_nextToken_0 {G : zG} {d b : Nat} {I : Nat → Nat → Int32} {L : Nat → Nat → Int64} {R : zR}  (hR : zR0 R)
    (K : (((I 53 1) ≤ (I 53 3) → (∀ I2 : Nat → Nat → Int32, I2 = (zup I 53 2 (I 53 3)) → ((((zup I2 53 4 0) 53 1) ≤ ((zup I2 53 4 0) 53 3) → ((((zup I2 53 4 0) 53 4) = 1 → zA G (d + 1) mX7_nextToken 110 [some (.ref 53), some (.int 1)] [] (zh b (zup I2 53 4 0) L) R) ∧ (¬ ((zup I2 53 4 0) 53 4) = 1 → ((¬ ((zup I2 53 4 0) 53 4) = 2 → zA G (d + 1) mX7_nextToken 110 [some (.ref 53), some (.int 0)] [] (zh b (zup I2 53 4 0) L) R) ∧ (((zup I2 53 4 0) 53 4) = 2 → zA G (d + 1) mX7_nextToken 110 [some (.ref 53), some (.int 1)] [] (zh b (zup I2 53 4 0) L) R))))) ∧ (¬ ((zup I2 53 4 0) 53 1) ≤ ((zup I2 53 4 0) 53 3) → (vp_in ((zup I2 53 4 0) 53 3) 250 ∧ (∃ (r7 : Int32), zCall d mX7_tokenBegunBy [.int ((zup I2 53 4 0) 54 (zx ((zup I2 53 4 0) 53 3)))] (zh b (zup I2 53 4 0) L) (some (.int r7), zh b (zup I2 53 4 0) L) ∧ (∀ I9 : Nat → Nat → Int32, I9 = (zup I2 53 4 0) → (∀ I10 : Nat → Nat → Int32, I10 = (zup I9 53 4 r7) → ((((zup I10 53 3 (((zup I9 53 4 r7) 53 3) + 1)) 53 4) = 1 → zA G (d + 1) mX7_nextToken 110 [some (.ref 53), some (.int 1)] [] (zh b (zup I10 53 3 (((zup I9 53 4 r7) 53 3) + 1)) L) R) ∧ (¬ ((zup I10 53 3 (((zup I9 53 4 r7) 53 3) + 1)) 53 4) = 1 → ((¬ ((zup I10 53 3 (((zup I9 53 4 r7) 53 3) + 1)) 53 4) = 2 → zA G (d + 1) mX7_nextToken 110 [some (.ref 53), some (.int 0)] [] (zh b (zup I10 53 3 (((zup I9 53 4 r7) 53 3) + 1)) L) R) ∧ (((zup I10 53 3 (((zup I9 53 4 r7) 53 3) + 1)) 53 4) = 2 → zA G (d + 1) mX7_nextToken 110 [some (.ref 53), some (.int 1)] [] (zh b (zup I10 53 3 (((zup I9 53 4 r7) 53 3) + 1)) L) R)))))))))))) ∧ (¬ (I 53 1) ≤ (I 53 3) → (vp_in (I 53 3) 250 ∧ ((¬ (I 54 (zx (I 53 3))) = 32 → (∀ I15 : Nat → Nat → Int32, I15 = (zup I 53 2 (I 53 3)) → ((((zup I15 53 4 0) 53 1) ≤ ((zup I15 53 4 0) 53 3) → ((((zup I15 53 4 0) 53 4) = 1 → zA G (d + 1) mX7_nextToken 110 [some (.ref 53), some (.int 1)] [] (zh b (zup I15 53 4 0) L) R) ∧ (¬ ((zup I15 53 4 0) 53 4) = 1 → ((¬ ((zup I15 53 4 0) 53 4) = 2 → zA G (d + 1) mX7_nextToken 110 [some (.ref 53), some (.int 0)] [] (zh b (zup I15 53 4 0) L) R) ∧ (((zup I15 53 4 0) 53 4) = 2 → zA G (d + 1) mX7_nextToken 110 [some (.ref 53), some (.int 1)] [] (zh b (zup I15 53 4 0) L) R))))) ∧ (¬ ((zup I15 53 4 0) 53 1) ≤ ((zup I15 53 4 0) 53 3) → (vp_in ((zup I15 53 4 0) 53 3) 250 ∧ (∃ (r20 : Int32), zCall d mX7_tokenBegunBy [.int ((zup I15 53 4 0) 54 (zx ((zup I15 53 4 0) 53 3)))] (zh b (zup I15 53 4 0) L) (some (.int r20), zh b (zup I15 53 4 0) L) ∧ (∀ I22 : Nat → Nat → Int32, I22 = (zup I15 53 4 0) → (∀ I23 : Nat → Nat → Int32, I23 = (zup I22 53 4 r20) → ((((zup I23 53 3 (((zup I22 53 4 r20) 53 3) + 1)) 53 4) = 1 → zA G (d + 1) mX7_nextToken 110 [some (.ref 53), some (.int 1)] [] (zh b (zup I23 53 3 (((zup I22 53 4 r20) 53 3) + 1)) L) R) ∧ (¬ ((zup I23 53 3 (((zup I22 53 4 r20) 53 3) + 1)) 53 4) = 1 → ((¬ ((zup I23 53 3 (((zup I22 53 4 r20) 53 3) + 1)) 53 4) = 2 → zA G (d + 1) mX7_nextToken 110 [some (.ref 53), some (.int 0)] [] (zh b (zup I23 53 3 (((zup I22 53 4 r20) 53 3) + 1)) L) R) ∧ (((zup I23 53 3 (((zup I22 53 4 r20) 53 3) + 1)) 53 4) = 2 → zA G (d + 1) mX7_nextToken 110 [some (.ref 53), some (.int 1)] [] (zh b (zup I23 53 3 (((zup I22 53 4 r20) 53 3) + 1)) L) R)))))))))))) ∧ ((I 54 (zx (I 53 3))) = 32 → zA G (d + 1) mX7_nextToken 0 [some (.ref 53), none] [] (zh b (zup I 53 3 ((I 53 3) + 1)) L) R)))))) :
    zA G (d + 1) mX7_nextToken 0 [some (.ref 53), none] [] (zh b I L) R := by
  refine zi_aload_n dX7_nextToken_0 rfl rfl ?_
  refine zg_getI (k := 3) dX7_nextToken_1 zc7 rfl (Nat.le_of_ble_eq_true rfl) (Nat.le_of_ble_eq_true rfl) u_224 rfl ?_
  refine zi_aload_n dX7_nextToken_4 rfl rfl ?_
  refine zg_getI (k := 1) dX7_nextToken_5 zc7 rfl (Nat.le_of_ble_eq_true rfl) (Nat.le_of_ble_eq_true rfl) u_220 rfl ?_
  refine zi_icmp_ge (tgt := 38) dX7_nextToken_8 (by decide) (fun c1 => ?_) (fun c1 => ?_)
  · have K := K.1 c1
    refine zi_aload_n dX7_nextToken_38 rfl rfl ?_
    refine zi_aload_n dX7_nextToken_39 rfl rfl ?_
    refine zg_getI (k := 3) dX7_nextToken_40 zc7 rfl (Nat.le_of_ble_eq_true rfl) (Nat.le_of_ble_eq_true rfl) u_224 rfl ?_
    refine zg_putI (k := 2) dX7_nextToken_43 zc7 rfl (Nat.le_of_ble_eq_true rfl) (Nat.le_of_ble_eq_true rfl) u_222 rfl rfl ?_
    refine zi_aload_n dX7_nextToken_46 rfl rfl ?_
    refine zi_iconst (v := 0) dX7_nextToken_47 (by decide) ?_
    refine zi_name (fun I2 hI2 => ?_)
    have K := K I2 hI2
    refine zg_putI (k := 4) dX7_nextToken_48 zc7 rfl (Nat.le_of_ble_eq_true rfl) (Nat.le_of_ble_eq_true rfl) u_225 rfl rfl ?_
    refine zi_aload_n dX7_nextToken_51 rfl rfl ?_
    refine zg_getI (k := 3) dX7_nextToken_52 zc7 rfl (Nat.le_of_ble_eq_true rfl) (Nat.le_of_ble_eq_true rfl) u_224 rfl ?_
    refine zi_aload_n dX7_nextToken_55 rfl rfl ?_
    refine zg_getI (k := 1) dX7_nextToken_56 zc7 rfl (Nat.le_of_ble_eq_true rfl) (Nat.le_of_ble_eq_true rfl) u_220 rfl ?_
    refine zi_icmp_ge (tgt := 88) dX7_nextToken_59 (by decide) (fun c3 => ?_) (fun c3 => ?_)
    · have K := K.1 c3
      refine zi_aload_n dX7_nextToken_88 rfl rfl ?_
      refine zg_getI (k := 4) dX7_nextToken_89 zc7 rfl (Nat.le_of_ble_eq_true rfl) (Nat.le_of_ble_eq_true rfl) u_225 rfl ?_
      refine zi_iconst (v := 1) dX7_nextToken_92 (by decide) ?_
      refine zi_icmp_eq (tgt := 104) dX7_nextToken_93 (by decide) (fun c4 => ?_) (fun c4 => ?_)
      · have K := K.1 c4
        refine zi_iconst (v := 1) dX7_nextToken_104 (by decide) ?_
        refine zi_goto (tgt := 109) dX7_nextToken_105 (by decide) ?_
        refine zi_istore_n (ls' := [some (.ref 53), some (.int 1)]) dX7_nextToken_109 rfl (by decide) rfl ?_
        exact K
      · have K := K.2 c4
        refine zi_aload_n dX7_nextToken_96 rfl rfl ?_
        refine zg_getI (k := 4) dX7_nextToken_97 zc7 rfl (Nat.le_of_ble_eq_true rfl) (Nat.le_of_ble_eq_true rfl) u_225 rfl ?_
        refine zi_iconst (v := 2) dX7_nextToken_100 (by decide) ?_
        refine zi_icmp_ne (tgt := 108) dX7_nextToken_101 (by decide) (fun c5 => ?_) (fun c5 => ?_)
        · have K := K.1 c5
          refine zi_iconst (v := 0) dX7_nextToken_108 (by decide) ?_
          refine zi_istore_n (ls' := [some (.ref 53), some (.int 0)]) dX7_nextToken_109 rfl (by decide) rfl ?_
          exact K
        · have K := K.2 c5
          refine zi_iconst (v := 1) dX7_nextToken_104 (by decide) ?_
          refine zi_goto (tgt := 109) dX7_nextToken_105 (by decide) ?_
          refine zi_istore_n (ls' := [some (.ref 53), some (.int 1)]) dX7_nextToken_109 rfl (by decide) rfl ?_
          exact K
    · have K := K.2 c3
      refine zi_aload_n dX7_nextToken_62 rfl rfl ?_
      refine zi_aload_n dX7_nextToken_63 rfl rfl ?_
      refine zg_getF (k := 0) (v := .ref 54) dX7_nextToken_64 zc7 rfl (Nat.le_of_ble_eq_true rfl) (Nat.le_of_ble_eq_true rfl) u_219 rfl (rfl) ?_
      refine zi_aload_n dX7_nextToken_67 rfl rfl ?_
      refine zg_getI (k := 3) dX7_nextToken_68 zc7 rfl (Nat.le_of_ble_eq_true rfl) (Nat.le_of_ble_eq_true rfl) u_224 rfl ?_
      have o6 := K.1
      have K := K.2
      refine zg_iaload dX7_nextToken_71 (rfl) (Nat.le_of_ble_eq_true rfl) o6 ?_
      obtain ⟨r7, h8, K⟩ := K
      refine zi_callS (N := mX7_tokenBegunBy) (av := [.int ((zup I2 53 4 0) 54 (zx ((zup I2 53 4 0) 53 3)))]) (st := [.ref 53]) (R1 := (some (.int r7), zh b (zup I2 53 4 0) L)) dX7_nextToken_72 okX7_tokenBegunBy u_371 u_372 arX7_tokenBegunBy rfl (Nat.le_of_ble_eq_true rfl) (h8) hR ?_
      show zA G (d + 1) mX7_nextToken 75 [some (.ref 53), none] [.int r7, .ref 53] (zh b (zup I2 53 4 0) L) R
      refine zi_name (fun I9 hI9 => ?_)
      have K := K I9 hI9
      refine zg_putI (k := 4) dX7_nextToken_75 zc7 rfl (Nat.le_of_ble_eq_true rfl) (Nat.le_of_ble_eq_true rfl) u_225 rfl rfl ?_
      refine zi_aload_n dX7_nextToken_78 rfl rfl ?_
      refine zi_dup dX7_nextToken_79 rfl ?_
      refine zg_getI (k := 3) dX7_nextToken_80 zc7 rfl (Nat.le_of_ble_eq_true rfl) (Nat.le_of_ble_eq_true rfl) u_224 rfl ?_
      refine zi_iconst (v := 1) dX7_nextToken_83 (by decide) ?_
      refine zi_iadd dX7_nextToken_84 ?_
      refine zi_name (fun I10 hI10 => ?_)
      have K := K I10 hI10
      refine zg_putI (k := 3) dX7_nextToken_85 zc7 rfl (Nat.le_of_ble_eq_true rfl) (Nat.le_of_ble_eq_true rfl) u_224 rfl rfl ?_
      refine zi_aload_n dX7_nextToken_88 rfl rfl ?_
      refine zg_getI (k := 4) dX7_nextToken_89 zc7 rfl (Nat.le_of_ble_eq_true rfl) (Nat.le_of_ble_eq_true rfl) u_225 rfl ?_
      refine zi_iconst (v := 1) dX7_nextToken_92 (by decide) ?_
      refine zi_icmp_eq (tgt := 104) dX7_nextToken_93 (by decide) (fun c11 => ?_) (fun c11 => ?_)
      · have K := K.1 c11
        refine zi_iconst (v := 1) dX7_nextToken_104 (by decide) ?_
        refine zi_goto (tgt := 109) dX7_nextToken_105 (by decide) ?_
        refine zi_istore_n (ls' := [some (.ref 53), some (.int 1)]) dX7_nextToken_109 rfl (by decide) rfl ?_
        exact K
      · have K := K.2 c11
        refine zi_aload_n dX7_nextToken_96 rfl rfl ?_
        refine zg_getI (k := 4) dX7_nextToken_97 zc7 rfl (Nat.le_of_ble_eq_true rfl) (Nat.le_of_ble_eq_true rfl) u_225 rfl ?_
        refine zi_iconst (v := 2) dX7_nextToken_100 (by decide) ?_
        refine zi_icmp_ne (tgt := 108) dX7_nextToken_101 (by decide) (fun c12 => ?_) (fun c12 => ?_)
        · have K := K.1 c12
          refine zi_iconst (v := 0) dX7_nextToken_108 (by decide) ?_
          refine zi_istore_n (ls' := [some (.ref 53), some (.int 0)]) dX7_nextToken_109 rfl (by decide) rfl ?_
          exact K
        · have K := K.2 c12
          refine zi_iconst (v := 1) dX7_nextToken_104 (by decide) ?_
          refine zi_goto (tgt := 109) dX7_nextToken_105 (by decide) ?_
          refine zi_istore_n (ls' := [some (.ref 53), some (.int 1)]) dX7_nextToken_109 rfl (by decide) rfl ?_
          exact K
  · have K := K.2 c1
    refine zi_aload_n dX7_nextToken_11 rfl rfl ?_
    refine zg_getF (k := 0) (v := .ref 54) dX7_nextToken_12 zc7 rfl (Nat.le_of_ble_eq_true rfl) (Nat.le_of_ble_eq_true rfl) u_219 rfl (rfl) ?_
    refine zi_aload_n dX7_nextToken_15 rfl rfl ?_
    refine zg_getI (k := 3) dX7_nextToken_16 zc7 rfl (Nat.le_of_ble_eq_true rfl) (Nat.le_of_ble_eq_true rfl) u_224 rfl ?_
    have o13 := K.1
    have K := K.2
    refine zg_iaload dX7_nextToken_19 (rfl) (Nat.le_of_ble_eq_true rfl) o13 ?_
    refine zi_bipush (v := 32) dX7_nextToken_20 (by decide) ?_
    refine zi_icmp_ne (tgt := 38) dX7_nextToken_22 (by decide) (fun c14 => ?_) (fun c14 => ?_)
    · have K := K.1 c14
      refine zi_aload_n dX7_nextToken_38 rfl rfl ?_
      refine zi_aload_n dX7_nextToken_39 rfl rfl ?_
      refine zg_getI (k := 3) dX7_nextToken_40 zc7 rfl (Nat.le_of_ble_eq_true rfl) (Nat.le_of_ble_eq_true rfl) u_224 rfl ?_
      refine zg_putI (k := 2) dX7_nextToken_43 zc7 rfl (Nat.le_of_ble_eq_true rfl) (Nat.le_of_ble_eq_true rfl) u_222 rfl rfl ?_
      refine zi_aload_n dX7_nextToken_46 rfl rfl ?_
      refine zi_iconst (v := 0) dX7_nextToken_47 (by decide) ?_
      refine zi_name (fun I15 hI15 => ?_)
      have K := K I15 hI15
      refine zg_putI (k := 4) dX7_nextToken_48 zc7 rfl (Nat.le_of_ble_eq_true rfl) (Nat.le_of_ble_eq_true rfl) u_225 rfl rfl ?_
      refine zi_aload_n dX7_nextToken_51 rfl rfl ?_
      refine zg_getI (k := 3) dX7_nextToken_52 zc7 rfl (Nat.le_of_ble_eq_true rfl) (Nat.le_of_ble_eq_true rfl) u_224 rfl ?_
      refine zi_aload_n dX7_nextToken_55 rfl rfl ?_
      refine zg_getI (k := 1) dX7_nextToken_56 zc7 rfl (Nat.le_of_ble_eq_true rfl) (Nat.le_of_ble_eq_true rfl) u_220 rfl ?_
      refine zi_icmp_ge (tgt := 88) dX7_nextToken_59 (by decide) (fun c16 => ?_) (fun c16 => ?_)
      · have K := K.1 c16
        refine zi_aload_n dX7_nextToken_88 rfl rfl ?_
        refine zg_getI (k := 4) dX7_nextToken_89 zc7 rfl (Nat.le_of_ble_eq_true rfl) (Nat.le_of_ble_eq_true rfl) u_225 rfl ?_
        refine zi_iconst (v := 1) dX7_nextToken_92 (by decide) ?_
        refine zi_icmp_eq (tgt := 104) dX7_nextToken_93 (by decide) (fun c17 => ?_) (fun c17 => ?_)
        · have K := K.1 c17
          refine zi_iconst (v := 1) dX7_nextToken_104 (by decide) ?_
          refine zi_goto (tgt := 109) dX7_nextToken_105 (by decide) ?_
          refine zi_istore_n (ls' := [some (.ref 53), some (.int 1)]) dX7_nextToken_109 rfl (by decide) rfl ?_
          exact K
        · have K := K.2 c17
          refine zi_aload_n dX7_nextToken_96 rfl rfl ?_
          refine zg_getI (k := 4) dX7_nextToken_97 zc7 rfl (Nat.le_of_ble_eq_true rfl) (Nat.le_of_ble_eq_true rfl) u_225 rfl ?_
          refine zi_iconst (v := 2) dX7_nextToken_100 (by decide) ?_
          refine zi_icmp_ne (tgt := 108) dX7_nextToken_101 (by decide) (fun c18 => ?_) (fun c18 => ?_)
          · have K := K.1 c18
            refine zi_iconst (v := 0) dX7_nextToken_108 (by decide) ?_
            refine zi_istore_n (ls' := [some (.ref 53), some (.int 0)]) dX7_nextToken_109 rfl (by decide) rfl ?_
            exact K
          · have K := K.2 c18
            refine zi_iconst (v := 1) dX7_nextToken_104 (by decide) ?_
            refine zi_goto (tgt := 109) dX7_nextToken_105 (by decide) ?_
            refine zi_istore_n (ls' := [some (.ref 53), some (.int 1)]) dX7_nextToken_109 rfl (by decide) rfl ?_
            exact K
      · have K := K.2 c16
        refine zi_aload_n dX7_nextToken_62 rfl rfl ?_
        refine zi_aload_n dX7_nextToken_63 rfl rfl ?_
        refine zg_getF (k := 0) (v := .ref 54) dX7_nextToken_64 zc7 rfl (Nat.le_of_ble_eq_true rfl) (Nat.le_of_ble_eq_true rfl) u_219 rfl (rfl) ?_
        refine zi_aload_n dX7_nextToken_67 rfl rfl ?_
        refine zg_getI (k := 3) dX7_nextToken_68 zc7 rfl (Nat.le_of_ble_eq_true rfl) (Nat.le_of_ble_eq_true rfl) u_224 rfl ?_
        have o19 := K.1
        have K := K.2
        refine zg_iaload dX7_nextToken_71 (rfl) (Nat.le_of_ble_eq_true rfl) o19 ?_
        obtain ⟨r20, h21, K⟩ := K
        refine zi_callS (N := mX7_tokenBegunBy) (av := [.int ((zup I15 53 4 0) 54 (zx ((zup I15 53 4 0) 53 3)))]) (st := [.ref 53]) (R1 := (some (.int r20), zh b (zup I15 53 4 0) L)) dX7_nextToken_72 okX7_tokenBegunBy u_371 u_372 arX7_tokenBegunBy rfl (Nat.le_of_ble_eq_true rfl) (h21) hR ?_
        show zA G (d + 1) mX7_nextToken 75 [some (.ref 53), none] [.int r20, .ref 53] (zh b (zup I15 53 4 0) L) R
        refine zi_name (fun I22 hI22 => ?_)
        have K := K I22 hI22
        refine zg_putI (k := 4) dX7_nextToken_75 zc7 rfl (Nat.le_of_ble_eq_true rfl) (Nat.le_of_ble_eq_true rfl) u_225 rfl rfl ?_
        refine zi_aload_n dX7_nextToken_78 rfl rfl ?_
        refine zi_dup dX7_nextToken_79 rfl ?_
        refine zg_getI (k := 3) dX7_nextToken_80 zc7 rfl (Nat.le_of_ble_eq_true rfl) (Nat.le_of_ble_eq_true rfl) u_224 rfl ?_
        refine zi_iconst (v := 1) dX7_nextToken_83 (by decide) ?_
        refine zi_iadd dX7_nextToken_84 ?_
        refine zi_name (fun I23 hI23 => ?_)
        have K := K I23 hI23
        refine zg_putI (k := 3) dX7_nextToken_85 zc7 rfl (Nat.le_of_ble_eq_true rfl) (Nat.le_of_ble_eq_true rfl) u_224 rfl rfl ?_
        refine zi_aload_n dX7_nextToken_88 rfl rfl ?_
        refine zg_getI (k := 4) dX7_nextToken_89 zc7 rfl (Nat.le_of_ble_eq_true rfl) (Nat.le_of_ble_eq_true rfl) u_225 rfl ?_
        refine zi_iconst (v := 1) dX7_nextToken_92 (by decide) ?_
        refine zi_icmp_eq (tgt := 104) dX7_nextToken_93 (by decide) (fun c24 => ?_) (fun c24 => ?_)
        · have K := K.1 c24
          refine zi_iconst (v := 1) dX7_nextToken_104 (by decide) ?_
          refine zi_goto (tgt := 109) dX7_nextToken_105 (by decide) ?_
          refine zi_istore_n (ls' := [some (.ref 53), some (.int 1)]) dX7_nextToken_109 rfl (by decide) rfl ?_
          exact K
        · have K := K.2 c24
          refine zi_aload_n dX7_nextToken_96 rfl rfl ?_
          refine zg_getI (k := 4) dX7_nextToken_97 zc7 rfl (Nat.le_of_ble_eq_true rfl) (Nat.le_of_ble_eq_true rfl) u_225 rfl ?_
          refine zi_iconst (v := 2) dX7_nextToken_100 (by decide) ?_
          refine zi_icmp_ne (tgt := 108) dX7_nextToken_101 (by decide) (fun c25 => ?_) (fun c25 => ?_)
          · have K := K.1 c25
            refine zi_iconst (v := 0) dX7_nextToken_108 (by decide) ?_
            refine zi_istore_n (ls' := [some (.ref 53), some (.int 0)]) dX7_nextToken_109 rfl (by decide) rfl ?_
            exact K
          · have K := K.2 c25
            refine zi_iconst (v := 1) dX7_nextToken_104 (by decide) ?_
            refine zi_goto (tgt := 109) dX7_nextToken_105 (by decide) ?_
            refine zi_istore_n (ls' := [some (.ref 53), some (.int 1)]) dX7_nextToken_109 rfl (by decide) rfl ?_
            exact K
    · have K := K.2 c14
      refine zi_aload_n dX7_nextToken_25 rfl rfl ?_
      refine zi_dup dX7_nextToken_26 rfl ?_
      refine zg_getI (k := 3) dX7_nextToken_27 zc7 rfl (Nat.le_of_ble_eq_true rfl) (Nat.le_of_ble_eq_true rfl) u_224 rfl ?_
      refine zi_iconst (v := 1) dX7_nextToken_30 (by decide) ?_
      refine zi_iadd dX7_nextToken_31 ?_
      refine zg_putI (k := 3) dX7_nextToken_32 zc7 rfl (Nat.le_of_ble_eq_true rfl) (Nat.le_of_ble_eq_true rfl) u_224 rfl rfl ?_
      refine zi_goto (tgt := 0) dX7_nextToken_35 (by decide) ?_
      exact K
set_option maxRecDepth 100000 in
theorem tX7_nextToken_110 {G : zG} {d b : Nat} {I : Nat → Nat → Int32} {L : Nat → Nat → Int64} {R : zR} {x1 : Int32} (hR : zR0 R)
    (K : ((x1 = 0 → R = (none, zh b I L)) ∧ (¬ x1 = 0 → (((I 53 1) ≤ (I 53 3) → R = (none, zh b I L)) ∧ (¬ (I 53 1) ≤ (I 53 3) → (vp_in (I 53 3) 250 ∧ (∃ (r4 : Int32), zCall d mX7_tokenBegunBy [.int (I 54 (zx (I 53 3)))] (zh b I L) (some (.int r4), zh b I L) ∧ ((¬ r4 = (I 53 4) → R = (none, zh b I L)) ∧ (r4 = (I 53 4) → zA G (d + 1) mX7_nextToken 110 [some (.ref 53), some (.int x1)] [] (zh b (zup I 53 3 ((I 53 3) + 1)) L) R))))))))) :
    zA G (d + 1) mX7_nextToken 110 [some (.ref 53), some (.int x1)] [] (zh b I L) R := by
  refine zi_iload_n dX7_nextToken_110 rfl rfl ?_
  refine zi_if_eq (tgt := 157) dX7_nextToken_111 (by decide) (fun c1 => ?_) (fun c1 => ?_)
  · have K := K.1 c1
    subst K
    exact zi_return dX7_nextToken_157 rfl
  · have K := K.2 c1
    refine zi_aload_n dX7_nextToken_114 rfl rfl ?_
    refine zg_getI (k := 3) dX7_nextToken_115 zc7 rfl (Nat.le_of_ble_eq_true rfl) (Nat.le_of_ble_eq_true rfl) u_224 rfl ?_
    refine zi_aload_n dX7_nextToken_118 rfl rfl ?_
    refine zg_getI (k := 1) dX7_nextToken_119 zc7 rfl (Nat.le_of_ble_eq_true rfl) (Nat.le_of_ble_eq_true rfl) u_220 rfl ?_
    refine zi_icmp_ge (tgt := 157) dX7_nextToken_122 (by decide) (fun c2 => ?_) (fun c2 => ?_)
    · have K := K.1 c2
      subst K
      exact zi_return dX7_nextToken_157 rfl
    · have K := K.2 c2
      refine zi_aload_n dX7_nextToken_125 rfl rfl ?_
      refine zg_getF (k := 0) (v := .ref 54) dX7_nextToken_126 zc7 rfl (Nat.le_of_ble_eq_true rfl) (Nat.le_of_ble_eq_true rfl) u_219 rfl (rfl) ?_
      refine zi_aload_n dX7_nextToken_129 rfl rfl ?_
      refine zg_getI (k := 3) dX7_nextToken_130 zc7 rfl (Nat.le_of_ble_eq_true rfl) (Nat.le_of_ble_eq_true rfl) u_224 rfl ?_
      have o3 := K.1
      have K := K.2
      refine zg_iaload dX7_nextToken_133 (rfl) (Nat.le_of_ble_eq_true rfl) o3 ?_
      obtain ⟨r4, h5, K⟩ := K
      refine zi_callS (N := mX7_tokenBegunBy) (av := [.int (I 54 (zx (I 53 3)))]) (st := []) (R1 := (some (.int r4), zh b I L)) dX7_nextToken_134 okX7_tokenBegunBy u_371 u_372 arX7_tokenBegunBy rfl (Nat.le_of_ble_eq_true rfl) (h5) hR ?_
      show zA G (d + 1) mX7_nextToken 137 [some (.ref 53), some (.int x1)] [.int r4] (zh b I L) R
      refine zi_aload_n dX7_nextToken_137 rfl rfl ?_
      refine zg_getI (k := 4) dX7_nextToken_138 zc7 rfl (Nat.le_of_ble_eq_true rfl) (Nat.le_of_ble_eq_true rfl) u_225 rfl ?_
      refine zi_icmp_ne (tgt := 157) dX7_nextToken_141 (by decide) (fun c6 => ?_) (fun c6 => ?_)
      · have K := K.1 c6
        subst K
        exact zi_return dX7_nextToken_157 rfl
      · have K := K.2 c6
        refine zi_aload_n dX7_nextToken_144 rfl rfl ?_
        refine zi_dup dX7_nextToken_145 rfl ?_
        refine zg_getI (k := 3) dX7_nextToken_146 zc7 rfl (Nat.le_of_ble_eq_true rfl) (Nat.le_of_ble_eq_true rfl) u_224 rfl ?_
        refine zi_iconst (v := 1) dX7_nextToken_149 (by decide) ?_
        refine zi_iadd dX7_nextToken_150 ?_
        refine zg_putI (k := 3) dX7_nextToken_151 zc7 rfl (Nat.le_of_ble_eq_true rfl) (Nat.le_of_ble_eq_true rfl) u_224 rfl rfl ?_
        refine zi_goto (tgt := 110) dX7_nextToken_154 (by decide) ?_
        exact K
set_option maxRecDepth 100000 in
theorem tX7_tokenBegunBy_0 {G : zG} {d b : Nat} {I : Nat → Nat → Int32} {L : Nat → Nat → Int64} {R : zR} {x0 : Int32}
    (K : ((x0 < 97 → ((x0 < 48 → ((¬ x0 = 59 → R = (some (.int 4), zh b I L)) ∧ (x0 = 59 → R = (some (.int 3), zh b I L)))) ∧ (¬ x0 < 48 → ((57 < x0 → ((¬ x0 = 59 → R = (some (.int 4), zh b I L)) ∧ (x0 = 59 → R = (some (.int 3), zh b I L)))) ∧ (¬ 57 < x0 → R = (some (.int 2), zh b I L)))))) ∧ (¬ x0 < 97 → ((122 < x0 → ((x0 < 48 → ((¬ x0 = 59 → R = (some (.int 4), zh b I L)) ∧ (x0 = 59 → R = (some (.int 3), zh b I L)))) ∧ (¬ x0 < 48 → ((57 < x0 → ((¬ x0 = 59 → R = (some (.int 4), zh b I L)) ∧ (x0 = 59 → R = (some (.int 3), zh b I L)))) ∧ (¬ 57 < x0 → R = (some (.int 2), zh b I L)))))) ∧ (¬ 122 < x0 → R = (some (.int 1), zh b I L)))))) :
    zA G d mX7_tokenBegunBy 0 [some (.int x0)] [] (zh b I L) R := by
  refine zi_iload_n dX7_tokenBegunBy_0 rfl rfl ?_
  refine zi_bipush (v := 97) dX7_tokenBegunBy_1 (by decide) ?_
  refine zi_icmp_lt (tgt := 14) dX7_tokenBegunBy_3 (by decide) (fun c1 => ?_) (fun c1 => ?_)
  · have K := K.1 c1
    refine zi_iload_n dX7_tokenBegunBy_14 rfl rfl ?_
    refine zi_bipush (v := 48) dX7_tokenBegunBy_15 (by decide) ?_
    refine zi_icmp_lt (tgt := 28) dX7_tokenBegunBy_17 (by decide) (fun c2 => ?_) (fun c2 => ?_)
    · have K := K.1 c2
      refine zi_iload_n dX7_tokenBegunBy_28 rfl rfl ?_
      refine zi_bipush (v := 59) dX7_tokenBegunBy_29 (by decide) ?_
      refine zi_icmp_ne (tgt := 38) dX7_tokenBegunBy_31 (by decide) (fun c3 => ?_) (fun c3 => ?_)
      · have K := K.1 c3
        refine zi_iconst (v := 4) dX7_tokenBegunBy_38 (by decide) ?_
        subst K
        exact zi_ireturn dX7_tokenBegunBy_39 rfl rfl
      · have K := K.2 c3
        refine zi_iconst (v := 3) dX7_tokenBegunBy_34 (by decide) ?_
        refine zi_goto (tgt := 39) dX7_tokenBegunBy_35 (by decide) ?_
        subst K
        exact zi_ireturn dX7_tokenBegunBy_39 rfl rfl
    · have K := K.2 c2
      refine zi_iload_n dX7_tokenBegunBy_20 rfl rfl ?_
      refine zi_bipush (v := 57) dX7_tokenBegunBy_21 (by decide) ?_
      refine zi_icmp_gt (tgt := 28) dX7_tokenBegunBy_23 (by decide) (fun c4 => ?_) (fun c4 => ?_)
      · have K := K.1 c4
        refine zi_iload_n dX7_tokenBegunBy_28 rfl rfl ?_
        refine zi_bipush (v := 59) dX7_tokenBegunBy_29 (by decide) ?_
        refine zi_icmp_ne (tgt := 38) dX7_tokenBegunBy_31 (by decide) (fun c5 => ?_) (fun c5 => ?_)
        · have K := K.1 c5
          refine zi_iconst (v := 4) dX7_tokenBegunBy_38 (by decide) ?_
          subst K
          exact zi_ireturn dX7_tokenBegunBy_39 rfl rfl
        · have K := K.2 c5
          refine zi_iconst (v := 3) dX7_tokenBegunBy_34 (by decide) ?_
          refine zi_goto (tgt := 39) dX7_tokenBegunBy_35 (by decide) ?_
          subst K
          exact zi_ireturn dX7_tokenBegunBy_39 rfl rfl
      · have K := K.2 c4
        refine zi_iconst (v := 2) dX7_tokenBegunBy_26 (by decide) ?_
        subst K
        exact zi_ireturn dX7_tokenBegunBy_27 rfl rfl
  · have K := K.2 c1
    refine zi_iload_n dX7_tokenBegunBy_6 rfl rfl ?_
    refine zi_bipush (v := 122) dX7_tokenBegunBy_7 (by decide) ?_
    refine zi_icmp_gt (tgt := 14) dX7_tokenBegunBy_9 (by decide) (fun c6 => ?_) (fun c6 => ?_)
    · have K := K.1 c6
      refine zi_iload_n dX7_tokenBegunBy_14 rfl rfl ?_
      refine zi_bipush (v := 48) dX7_tokenBegunBy_15 (by decide) ?_
      refine zi_icmp_lt (tgt := 28) dX7_tokenBegunBy_17 (by decide) (fun c7 => ?_) (fun c7 => ?_)
      · have K := K.1 c7
        refine zi_iload_n dX7_tokenBegunBy_28 rfl rfl ?_
        refine zi_bipush (v := 59) dX7_tokenBegunBy_29 (by decide) ?_
        refine zi_icmp_ne (tgt := 38) dX7_tokenBegunBy_31 (by decide) (fun c8 => ?_) (fun c8 => ?_)
        · have K := K.1 c8
          refine zi_iconst (v := 4) dX7_tokenBegunBy_38 (by decide) ?_
          subst K
          exact zi_ireturn dX7_tokenBegunBy_39 rfl rfl
        · have K := K.2 c8
          refine zi_iconst (v := 3) dX7_tokenBegunBy_34 (by decide) ?_
          refine zi_goto (tgt := 39) dX7_tokenBegunBy_35 (by decide) ?_
          subst K
          exact zi_ireturn dX7_tokenBegunBy_39 rfl rfl
      · have K := K.2 c7
        refine zi_iload_n dX7_tokenBegunBy_20 rfl rfl ?_
        refine zi_bipush (v := 57) dX7_tokenBegunBy_21 (by decide) ?_
        refine zi_icmp_gt (tgt := 28) dX7_tokenBegunBy_23 (by decide) (fun c9 => ?_) (fun c9 => ?_)
        · have K := K.1 c9
          refine zi_iload_n dX7_tokenBegunBy_28 rfl rfl ?_
          refine zi_bipush (v := 59) dX7_tokenBegunBy_29 (by decide) ?_
          refine zi_icmp_ne (tgt := 38) dX7_tokenBegunBy_31 (by decide) (fun c10 => ?_) (fun c10 => ?_)
          · have K := K.1 c10
            refine zi_iconst (v := 4) dX7_tokenBegunBy_38 (by decide) ?_
            subst K
            exact zi_ireturn dX7_tokenBegunBy_39 rfl rfl
          · have K := K.2 c10
            refine zi_iconst (v := 3) dX7_tokenBegunBy_34 (by decide) ?_
            refine zi_goto (tgt := 39) dX7_tokenBegunBy_35 (by decide) ?_
            subst K
            exact zi_ireturn dX7_tokenBegunBy_39 rfl rfl
        · have K := K.2 c9
          refine zi_iconst (v := 2) dX7_tokenBegunBy_26 (by decide) ?_
          subst K
          exact zi_ireturn dX7_tokenBegunBy_27 rfl rfl
    · have K := K.2 c6
      refine zi_iconst (v := 1) dX7_tokenBegunBy_12 (by decide) ?_
      subst K
      exact zi_ireturn dX7_tokenBegunBy_13 rfl rfl
set_option maxRecDepth 100000 in
theorem tX3_least_0 {G : zG} {d b : Nat} {I : Nat → Nat → Int32} {L : Nat → Nat → Int64} {R : zR} {x3 : Int32} {x4 : Int32} {k2 : Nat} {o : Nat} (ho : zhl o) (hR : zR0 R)
    (K : (∃ (I1 : Nat → Nat → Int32), zCall (d + 4) mJ7_fill_53178 [.ref 49, .int 0] (zh b I L) (none, zh b I1 L) ∧ (∃ (r3 : Int32) (I4 : Nat → Nat → Int32), zCall (d + 4) mX3_leastFrom [.ref 48, .ref o, .ref (38 + k2), .int x3, .int 0, .int x4, .int 0] (zh b I1 L) (some (.int r3), zh b I4 L) ∧ R = (some (.int r3), zh b I4 L)))) :
    zA G (d + 5) mX3_least 0 [some (.ref 48), some (.ref o), some (.ref (38 + k2)), some (.int x3), some (.int x4)] [] (zh b I L) R := by
  refine zi_aload_n dX3_least_0 rfl rfl ?_
  refine zg_getF (k := 0) (v := .ref 49) dX3_least_1 zc3 rfl (Nat.le_of_ble_eq_true rfl) (Nat.le_of_ble_eq_true rfl) u_195 rfl (rfl) ?_
  refine zi_iconst (v := 0) dX3_least_4 (by decide) ?_
  obtain ⟨I1, h2, K⟩ := K
  refine zi_callS (N := mJ7_fill_53178) (av := [.ref 49, .int 0]) (st := []) (R1 := (none, zh b I1 L)) dX3_least_5 okJ7_fill_53178 u_579 u_242 arJ7_fill_53178 rfl (Nat.le_of_ble_eq_true rfl) (h2) hR ?_
  show zA G (d + 5) mX3_least 8 [some (.ref 48), some (.ref o), some (.ref (38 + k2)), some (.int x3), some (.int x4)] [] (zh b I1 L) R
  refine zi_aload_n dX3_least_8 rfl rfl ?_
  refine zi_aload_n dX3_least_9 rfl rfl ?_
  refine zi_aload_n dX3_least_10 rfl rfl ?_
  refine zi_iload_n dX3_least_11 rfl rfl ?_
  refine zi_iconst (v := 0) dX3_least_12 (by decide) ?_
  refine zi_iload dX3_least_13 rfl ?_
  refine zi_iconst (v := 0) dX3_least_15 (by decide) ?_
  obtain ⟨r3, I4, h5, K⟩ := K
  refine zi_callV (N := mX3_leastFrom) (av := [.ref o, .ref (38 + k2), .int x3, .int 0, .int x4, .int 0]) (st := []) (R1 := (some (.int r3), zh b I4 L)) dX3_least_16 okX3_leastFrom u_580 u_582 s_12 zc3 (rfl) (Nat.le_of_ble_eq_true rfl) arX3_leastFrom rfl (Nat.le_of_ble_eq_true rfl) (h5) hR ?_
  show zA G (d + 5) mX3_least 19 [some (.ref 48), some (.ref o), some (.ref (38 + k2)), some (.int x3), some (.int x4)] [.int r3] (zh b I4 L) R
  subst K
  exact zi_ireturn dX3_least_19 rfl rfl
set_option maxRecDepth 100000 in
theorem tX3_stepIn_0 {G : zG} {d b : Nat} {I : Nat → Nat → Int32} {L : Nat → Nat → Int64} {R : zR} {x3 : Int32} {x4 : Int32} {x5 : Int32} {k2 : Nat} {o : Nat} (ho : zhl o) (hR : zR0 R)
    (K : (∃ (I1 : Nat → Nat → Int32), zCall (d + 3) mJ7_fill_53178 [.ref 49, .int 0] (zh b I L) (none, zh b I1 L) ∧ zA G (d + 4) mX3_stepIn 21 [some (.ref 48), some (.ref o), some (.ref (38 + k2)), some (.int x3), some (.int x4), some (.int x5), some (.int x4), some (.int 0), some (.int 0), some (.int 0)] [] (zh b I1 L) R)) :
    zA G (d + 4) mX3_stepIn 0 [some (.ref 48), some (.ref o), some (.ref (38 + k2)), some (.int x3), some (.int x4), some (.int x5), none, none, none, none] [] (zh b I L) R := by
  refine zi_aload_n dX3_stepIn_0 rfl rfl ?_
  refine zg_getF (k := 0) (v := .ref 49) dX3_stepIn_1 zc3 rfl (Nat.le_of_ble_eq_true rfl) (Nat.le_of_ble_eq_true rfl) u_195 rfl (rfl) ?_
  refine zi_iconst (v := 0) dX3_stepIn_4 (by decide) ?_
  obtain ⟨I1, h2, K⟩ := K
  refine zi_callS (N := mJ7_fill_53178) (av := [.ref 49, .int 0]) (st := []) (R1 := (none, zh b I1 L)) dX3_stepIn_5 okJ7_fill_53178 u_579 u_242 arJ7_fill_53178 rfl (Nat.le_of_ble_eq_true rfl) (h2) hR ?_
  show zA G (d + 4) mX3_stepIn 8 [some (.ref 48), some (.ref o), some (.ref (38 + k2)), some (.int x3), some (.int x4), some (.int x5), none, none, none, none] [] (zh b I1 L) R
  refine zi_iload dX3_stepIn_8 rfl ?_
  refine zi_istore (ls' := [some (.ref 48), some (.ref o), some (.ref (38 + k2)), some (.int x3), some (.int x4), some (.int x5), some (.int x4), none, none, none]) dX3_stepIn_10 (by decide) rfl ?_
  refine zi_iconst (v := 0) dX3_stepIn_12 (by decide) ?_
  refine zi_istore (ls' := [some (.ref 48), some (.ref o), some (.ref (38 + k2)), some (.int x3), some (.int x4), some (.int x5), some (.int x4), some (.int 0), none, none]) dX3_stepIn_13 (by decide) rfl ?_
  refine zi_iconst (v := 0) dX3_stepIn_15 (by decide) ?_
  refine zi_istore (ls' := [some (.ref 48), some (.ref o), some (.ref (38 + k2)), some (.int x3), some (.int x4), some (.int x5), some (.int x4), some (.int 0), some (.int 0), none]) dX3_stepIn_16 (by decide) rfl ?_
  refine zi_iconst (v := 0) dX3_stepIn_18 (by decide) ?_
  refine zi_istore (ls' := [some (.ref 48), some (.ref o), some (.ref (38 + k2)), some (.int x3), some (.int x4), some (.int x5), some (.int x4), some (.int 0), some (.int 0), some (.int 0)]) dX3_stepIn_19 (by decide) rfl ?_
  exact K
set_option maxRecDepth 100000 in
theorem tX3_stepIn_21 {G : zG} {d b : Nat} {I : Nat → Nat → Int32} {L : Nat → Nat → Int64} {R : zR} {x3 : Int32} {x4 : Int32} {x5 : Int32} {x6 : Int32} {x7 : Int32} {x8 : Int32} {x9 : Int32} {k2 : Nat} (hk2 : k2 < 5) {o : Nat} (ho : zhl o) (hR : zR0 R)
    (K : ((x5 < x9 → R = (some (.int x8), zh b I L)) ∧ (¬ x5 < x9 → (((I o 0) ≤ x9 → R = (some (.int x8), zh b I L)) ∧ (¬ (I o 0) ≤ x9 → (vp_in ((x9 * 6) + x6) 48 ∧ (vp_in ((x9 * 6) + x6) 48 ∧ (∃ (r5 : Int32) (I6 : Nat → Nat → Int32), zCall (d + 3) mX3_bestStep [.ref 48, .ref o, .ref (38 + k2), .int x3, .int x9, .int x6, .int (zpw k2 x7 (I (o + 1) (zx ((x9 * 6) + x6))) (I (o + 2) (zx ((x9 * 6) + x6))) x9)] (zh b I L) (some (.int r5), zh b I6 L) ∧ zA G (d + 4) mX3_stepIn 21 [some (.ref 48), some (.ref o), some (.ref (38 + k2)), some (.int x3), some (.int x4), some (.int x5), some (.int (zlb (I6 o 1) x6 r5)), some (.int (zpw k2 x7 (I (o + 1) (zx ((x9 * 6) + x6))) (I (o + 2) (zx ((x9 * 6) + x6))) x9)), some (.int r5), some (.int (x9 + 1))] [] (zh b I6 L) R)))))))) :
    zA G (d + 4) mX3_stepIn 21 [some (.ref 48), some (.ref o), some (.ref (38 + k2)), some (.int x3), some (.int x4), some (.int x5), some (.int x6), some (.int x7), some (.int x8), some (.int x9)] [] (zh b I L) R := by
  refine zi_iload dX3_stepIn_21 rfl ?_
  refine zi_iload dX3_stepIn_23 rfl ?_
  refine zi_icmp_gt (tgt := 102) dX3_stepIn_25 (by decide) (fun c1 => ?_) (fun c1 => ?_)
  · have K := K.1 c1
    refine zi_iload dX3_stepIn_102 rfl ?_
    subst K
    exact zi_ireturn dX3_stepIn_104 rfl rfl
  · have K := K.2 c1
    refine zi_iload dX3_stepIn_28 rfl ?_
    refine zi_aload_n dX3_stepIn_30 rfl rfl ?_
    refine zg_getI (k := 0) dX3_stepIn_31 zc4 ho.sh ho.l0 (Nat.le_of_ble_eq_true rfl) u_38 rfl ?_
    refine zi_icmp_ge (tgt := 102) dX3_stepIn_34 (by decide) (fun c2 => ?_) (fun c2 => ?_)
    · have K := K.1 c2
      refine zi_iload dX3_stepIn_102 rfl ?_
      subst K
      exact zi_ireturn dX3_stepIn_104 rfl rfl
    · have K := K.2 c2
      refine zi_aload_n dX3_stepIn_37 rfl rfl ?_
      refine zi_iload dX3_stepIn_38 rfl ?_
      refine zi_aload_n dX3_stepIn_40 rfl rfl ?_
      refine zg_getF (k := 5) (v := .ref (o + 1)) dX3_stepIn_41 zc4 ho.sh ho.l0 (Nat.le_of_ble_eq_true rfl) u_55 rfl (ho.f5) ?_
      refine zi_iload dX3_stepIn_44 rfl ?_
      refine zi_iload dX3_stepIn_46 rfl ?_
      refine zi_callSN (N := mX11_cell) (av := [.int x9, .int x6]) (st := [.ref (o + 1), .int x7, .ref (38 + k2)]) (R1 := (some (.int ((x9 * 6) + x6)), zh b I L)) dX3_stepIn_48 okX11_cell (by decide) u_315 arX11_cell rfl (Nat.le_of_ble_eq_true rfl) (kX11_cell _ _) hR ?_
      show zA G (d + 4) mX3_stepIn 51 [some (.ref 48), some (.ref o), some (.ref (38 + k2)), some (.int x3), some (.int x4), some (.int x5), some (.int x6), some (.int x7), some (.int x8), some (.int x9)] [.int ((x9 * 6) + x6), .ref (o + 1), .int x7, .ref (38 + k2)] (zh b I L) R
      have o3 := K.1
      have K := K.2
      refine zg_iaload dX3_stepIn_51 (ho.s1) (ho.lt 1 (Nat.le_of_ble_eq_true rfl)) o3 ?_
      refine zi_aload_n dX3_stepIn_52 rfl rfl ?_
      refine zg_getF (k := 6) (v := .ref (o + 2)) dX3_stepIn_53 zc4 ho.sh ho.l0 (Nat.le_of_ble_eq_true rfl) u_62 rfl (ho.f6) ?_
      refine zi_iload dX3_stepIn_56 rfl ?_
      refine zi_iload dX3_stepIn_58 rfl ?_
      refine zi_callSN (N := mX11_cell) (av := [.int x9, .int x6]) (st := [.ref (o + 2), .int (I (o + 1) (zx ((x9 * 6) + x6))), .int x7, .ref (38 + k2)]) (R1 := (some (.int ((x9 * 6) + x6)), zh b I L)) dX3_stepIn_60 okX11_cell (by decide) u_315 arX11_cell rfl (Nat.le_of_ble_eq_true rfl) (kX11_cell _ _) hR ?_
      show zA G (d + 4) mX3_stepIn 63 [some (.ref 48), some (.ref o), some (.ref (38 + k2)), some (.int x3), some (.int x4), some (.int x5), some (.int x6), some (.int x7), some (.int x8), some (.int x9)] [.int ((x9 * 6) + x6), .ref (o + 2), .int (I (o + 1) (zx ((x9 * 6) + x6))), .int x7, .ref (38 + k2)] (zh b I L) R
      have o4 := K.1
      have K := K.2
      refine zg_iaload dX3_stepIn_63 (ho.s2) (ho.lt 2 (Nat.le_of_ble_eq_true rfl)) o4 ?_
      refine zi_iload dX3_stepIn_64 rfl ?_
      refine zk_X3_newPace rfl hk2 (av := [.int x7, .int (I (o + 1) (zx ((x9 * 6) + x6))), .int (I (o + 2) (zx ((x9 * 6) + x6))), .int x9]) (st := []) (R1 := (some (.int (zpw k2 x7 (I (o + 1) (zx ((x9 * 6) + x6))) (I (o + 2) (zx ((x9 * 6) + x6))) x9)), zh b I L)) dX3_stepIn_66 arX9_newPace rfl (Nat.le_of_ble_eq_true rfl) (kX9_newPace hk2 _ _ _ _) hR ?_
      show zA G (d + 4) mX3_stepIn 69 [some (.ref 48), some (.ref o), some (.ref (38 + k2)), some (.int x3), some (.int x4), some (.int x5), some (.int x6), some (.int x7), some (.int x8), some (.int x9)] [.int (zpw k2 x7 (I (o + 1) (zx ((x9 * 6) + x6))) (I (o + 2) (zx ((x9 * 6) + x6))) x9)] (zh b I L) R
      refine zi_istore (ls' := [some (.ref 48), some (.ref o), some (.ref (38 + k2)), some (.int x3), some (.int x4), some (.int x5), some (.int x6), some (.int (zpw k2 x7 (I (o + 1) (zx ((x9 * 6) + x6))) (I (o + 2) (zx ((x9 * 6) + x6))) x9)), some (.int x8), some (.int x9)]) dX3_stepIn_69 (by decide) rfl ?_
      refine zi_aload_n dX3_stepIn_71 rfl rfl ?_
      refine zi_aload_n dX3_stepIn_72 rfl rfl ?_
      refine zi_aload_n dX3_stepIn_73 rfl rfl ?_
      refine zi_iload_n dX3_stepIn_74 rfl rfl ?_
      refine zi_iload dX3_stepIn_75 rfl ?_
      refine zi_iload dX3_stepIn_77 rfl ?_
      refine zi_iload dX3_stepIn_79 rfl ?_
      obtain ⟨r5, I6, h7, K⟩ := K
      refine zi_callV (N := mX3_bestStep) (av := [.ref o, .ref (38 + k2), .int x3, .int x9, .int x6, .int (zpw k2 x7 (I (o + 1) (zx ((x9 * 6) + x6))) (I (o + 2) (zx ((x9 * 6) + x6))) x9)]) (st := []) (R1 := (some (.int r5), zh b I6 L)) dX3_stepIn_81 okX3_bestStep u_586 u_588 s_13 zc3 (rfl) (Nat.le_of_ble_eq_true rfl) arX3_bestStep rfl (Nat.le_of_ble_eq_true rfl) (h7) hR ?_
      show zA G (d + 4) mX3_stepIn 84 [some (.ref 48), some (.ref o), some (.ref (38 + k2)), some (.int x3), some (.int x4), some (.int x5), some (.int x6), some (.int (zpw k2 x7 (I (o + 1) (zx ((x9 * 6) + x6))) (I (o + 2) (zx ((x9 * 6) + x6))) x9)), some (.int x8), some (.int x9)] [.int r5] (zh b I6 L) R
      refine zi_istore (ls' := [some (.ref 48), some (.ref o), some (.ref (38 + k2)), some (.int x3), some (.int x4), some (.int x5), some (.int x6), some (.int (zpw k2 x7 (I (o + 1) (zx ((x9 * 6) + x6))) (I (o + 2) (zx ((x9 * 6) + x6))) x9)), some (.int r5), some (.int x9)]) dX3_stepIn_84 (by decide) rfl ?_
      refine zi_aload_n dX3_stepIn_86 rfl rfl ?_
      refine zi_iload dX3_stepIn_87 rfl ?_
      refine zi_iload dX3_stepIn_89 rfl ?_
      refine zi_callV (N := mX4_laneBeyond) (av := [.int x6, .int r5]) (st := []) (R1 := (some (.int (zlb (I6 o 1) x6 r5)), zh b I6 L)) dX3_stepIn_91 okX4_laneBeyond u_590 u_554 u_555 zc4 (ho.sh) ho.l0 arX4_laneBeyond rfl (Nat.le_of_ble_eq_true rfl) (kX4_laneBeyond ho _ _) hR ?_
      show zA G (d + 4) mX3_stepIn 94 [some (.ref 48), some (.ref o), some (.ref (38 + k2)), some (.int x3), some (.int x4), some (.int x5), some (.int x6), some (.int (zpw k2 x7 (I (o + 1) (zx ((x9 * 6) + x6))) (I (o + 2) (zx ((x9 * 6) + x6))) x9)), some (.int r5), some (.int x9)] [.int (zlb (I6 o 1) x6 r5)] (zh b I6 L) R
      refine zi_istore (ls' := [some (.ref 48), some (.ref o), some (.ref (38 + k2)), some (.int x3), some (.int x4), some (.int x5), some (.int (zlb (I6 o 1) x6 r5)), some (.int (zpw k2 x7 (I (o + 1) (zx ((x9 * 6) + x6))) (I (o + 2) (zx ((x9 * 6) + x6))) x9)), some (.int r5), some (.int x9)]) dX3_stepIn_94 (by decide) rfl ?_
      refine zi_iinc (v := x9 + 1) (ls' := [some (.ref 48), some (.ref o), some (.ref (38 + k2)), some (.int x3), some (.int x4), some (.int x5), some (.int (zlb (I6 o 1) x6 r5)), some (.int (zpw k2 x7 (I (o + 1) (zx ((x9 * 6) + x6))) (I (o + 2) (zx ((x9 * 6) + x6))) x9)), some (.int r5), some (.int (x9 + 1))]) dX3_stepIn_96 rfl (by decide) rfl rfl ?_
      refine zi_goto (tgt := 21) dX3_stepIn_99 (by decide) ?_
      exact K
set_option maxRecDepth 100000 in
theorem tX3_bestStep_0 {G : zG} {d b : Nat} {I : Nat → Nat → Int32} {L : Nat → Nat → Int64} {R : zR} {x3 : Int32} {x4 : Int32} {x5 : Int32} {x6 : Int32} {k2 : Nat} {o : Nat} (ho : zhl o) (hR : zR0 R)
    (K : (∃ (r1 : Int32) (I2 : Nat → Nat → Int32), zCall d mX3_leastFrom [.ref 48, .ref o, .ref (38 + k2), .int x3, .int (x4 + 1), .int x5, .int x6] (zh b I L) (some (.int r1), zh b I2 L) ∧ zA G (d + 1) mX3_bestStep 23 [some (.ref 48), some (.ref o), some (.ref (38 + k2)), some (.int x3), some (.int x4), some (.int x5), some (.int x6), some (.int 0), some (.int r1), some (.int 1), none] [] (zh b I2 L) R)) :
    zA G (d + 1) mX3_bestStep 0 [some (.ref 48), some (.ref o), some (.ref (38 + k2)), some (.int x3), some (.int x4), some (.int x5), some (.int x6), none, none, none, none] [] (zh b I L) R := by
  refine zi_iconst (v := 0) dX3_bestStep_0 (by decide) ?_
  refine zi_istore (ls' := [some (.ref 48), some (.ref o), some (.ref (38 + k2)), some (.int x3), some (.int x4), some (.int x5), some (.int x6), some (.int 0), none, none, none]) dX3_bestStep_1 (by decide) rfl ?_
  refine zi_aload_n dX3_bestStep_3 rfl rfl ?_
  refine zi_aload_n dX3_bestStep_4 rfl rfl ?_
  refine zi_aload_n dX3_bestStep_5 rfl rfl ?_
  refine zi_iload_n dX3_bestStep_6 rfl rfl ?_
  refine zi_iload dX3_bestStep_7 rfl ?_
  refine zi_iconst (v := 1) dX3_bestStep_9 (by decide) ?_
  refine zi_iadd dX3_bestStep_10 ?_
  refine zi_iload dX3_bestStep_11 rfl ?_
  refine zi_iload dX3_bestStep_13 rfl ?_
  obtain ⟨r1, I2, h3, K⟩ := K
  refine zi_callV (N := mX3_leastFrom) (av := [.ref o, .ref (38 + k2), .int x3, .int (x4 + 1), .int x5, .int x6]) (st := []) (R1 := (some (.int r1), zh b I2 L)) dX3_bestStep_15 okX3_leastFrom u_580 u_582 s_12 zc3 (rfl) (Nat.le_of_ble_eq_true rfl) arX3_leastFrom rfl (Nat.le_of_ble_eq_true rfl) (h3) hR ?_
  show zA G (d + 1) mX3_bestStep 18 [some (.ref 48), some (.ref o), some (.ref (38 + k2)), some (.int x3), some (.int x4), some (.int x5), some (.int x6), some (.int 0), none, none, none] [.int r1] (zh b I2 L) R
  refine zi_istore (ls' := [some (.ref 48), some (.ref o), some (.ref (38 + k2)), some (.int x3), some (.int x4), some (.int x5), some (.int x6), some (.int 0), some (.int r1), none, none]) dX3_bestStep_18 (by decide) rfl ?_
  refine zi_iconst (v := 1) dX3_bestStep_20 (by decide) ?_
  refine zi_istore (ls' := [some (.ref 48), some (.ref o), some (.ref (38 + k2)), some (.int x3), some (.int x4), some (.int x5), some (.int x6), some (.int 0), some (.int r1), some (.int 1), none]) dX3_bestStep_21 (by decide) rfl ?_
  exact K
set_option maxRecDepth 100000 in
theorem tX3_bestStep_23 {G : zG} {d b : Nat} {I : Nat → Nat → Int32} {L : Nat → Nat → Int64} {R : zR} {x3 : Int32} {x4 : Int32} {x5 : Int32} {x6 : Int32} {x7 : Int32} {x8 : Int32} {x9 : Int32} {k2 : Nat} {o : Nat} (ho : zhl o) (hR : zR0 R)
    (K : ((2 < x9 → R = (some (.int x7), zh b I L)) ∧ (¬ 2 < x9 → (∃ (r2 : Int32) (I3 : Nat → Nat → Int32), zCall d mX3_leastFrom [.ref 48, .ref o, .ref (38 + k2), .int x3, .int (x4 + 1), .int (zlb (I o 1) x5 x9), .int x6] (zh b I L) (some (.int r2), zh b I3 L) ∧ ((x8 ≤ r2 → zA G (d + 1) mX3_bestStep 23 [some (.ref 48), some (.ref o), some (.ref (38 + k2)), some (.int x3), some (.int x4), some (.int x5), some (.int x6), some (.int x7), some (.int x8), some (.int (x9 + 1)), none] [] (zh b I3 L) R) ∧ (¬ x8 ≤ r2 → zA G (d + 1) mX3_bestStep 23 [some (.ref 48), some (.ref o), some (.ref (38 + k2)), some (.int x3), some (.int x4), some (.int x5), some (.int x6), some (.int x9), some (.int r2), some (.int (x9 + 1)), none] [] (zh b I3 L) R)))))) :
    zA G (d + 1) mX3_bestStep 23 [some (.ref 48), some (.ref o), some (.ref (38 + k2)), some (.int x3), some (.int x4), some (.int x5), some (.int x6), some (.int x7), some (.int x8), some (.int x9), none] [] (zh b I L) R := by
  refine zi_iload dX3_bestStep_23 rfl ?_
  refine zi_iconst (v := 2) dX3_bestStep_25 (by decide) ?_
  refine zi_icmp_gt (tgt := 73) dX3_bestStep_26 (by decide) (fun c1 => ?_) (fun c1 => ?_)
  · have K := K.1 c1
    refine zi_iload dX3_bestStep_73 rfl ?_
    subst K
    exact zi_ireturn dX3_bestStep_75 rfl rfl
  · have K := K.2 c1
    refine zi_aload_n dX3_bestStep_29 rfl rfl ?_
    refine zi_aload_n dX3_bestStep_30 rfl rfl ?_
    refine zi_aload_n dX3_bestStep_31 rfl rfl ?_
    refine zi_iload_n dX3_bestStep_32 rfl rfl ?_
    refine zi_iload dX3_bestStep_33 rfl ?_
    refine zi_iconst (v := 1) dX3_bestStep_35 (by decide) ?_
    refine zi_iadd dX3_bestStep_36 ?_
    refine zi_aload_n dX3_bestStep_37 rfl rfl ?_
    refine zi_iload dX3_bestStep_38 rfl ?_
    refine zi_iload dX3_bestStep_40 rfl ?_
    refine zi_callV (N := mX4_laneBeyond) (av := [.int x5, .int x9]) (st := [.int (x4 + 1), .int x3, .ref (38 + k2), .ref o, .ref 48]) (R1 := (some (.int (zlb (I o 1) x5 x9)), zh b I L)) dX3_bestStep_42 okX4_laneBeyond u_590 u_554 u_555 zc4 (ho.sh) ho.l0 arX4_laneBeyond rfl (Nat.le_of_ble_eq_true rfl) (kX4_laneBeyond ho _ _) hR ?_
    show zA G (d + 1) mX3_bestStep 45 [some (.ref 48), some (.ref o), some (.ref (38 + k2)), some (.int x3), some (.int x4), some (.int x5), some (.int x6), some (.int x7), some (.int x8), some (.int x9), none] [.int (zlb (I o 1) x5 x9), .int (x4 + 1), .int x3, .ref (38 + k2), .ref o, .ref 48] (zh b I L) R
    refine zi_iload dX3_bestStep_45 rfl ?_
    obtain ⟨r2, I3, h4, K⟩ := K
    refine zi_callV (N := mX3_leastFrom) (av := [.ref o, .ref (38 + k2), .int x3, .int (x4 + 1), .int (zlb (I o 1) x5 x9), .int x6]) (st := []) (R1 := (some (.int r2), zh b I3 L)) dX3_bestStep_47 okX3_leastFrom u_580 u_582 s_12 zc3 (rfl) (Nat.le_of_ble_eq_true rfl) arX3_leastFrom rfl (Nat.le_of_ble_eq_true rfl) (h4) hR ?_
    show zA G (d + 1) mX3_bestStep 50 [some (.ref 48), some (.ref o), some (.ref (38 + k2)), some (.int x3), some (.int x4), some (.int x5), some (.int x6), some (.int x7), some (.int x8), some (.int x9), none] [.int r2] (zh b I3 L) R
    refine zi_istore (ls' := [some (.ref 48), some (.ref o), some (.ref (38 + k2)), some (.int x3), some (.int x4), some (.int x5), some (.int x6), some (.int x7), some (.int x8), some (.int x9), some (.int r2)]) dX3_bestStep_50 (by decide) rfl ?_
    refine zi_iload dX3_bestStep_52 rfl ?_
    refine zi_iload dX3_bestStep_54 rfl ?_
    refine zi_icmp_ge (tgt := 67) dX3_bestStep_56 (by decide) (fun c5 => ?_) (fun c5 => ?_)
    · have K := K.1 c5
      refine zi_iinc (v := x9 + 1) (ls' := [some (.ref 48), some (.ref o), some (.ref (38 + k2)), some (.int x3), some (.int x4), some (.int x5), some (.int x6), some (.int x7), some (.int x8), some (.int (x9 + 1)), some (.int r2)]) dX3_bestStep_67 rfl (by decide) rfl rfl ?_
      refine zi_goto (tgt := 23) dX3_bestStep_70 (by decide) ?_
      refine zi_mask [true, true, true, true, true, true, true, true, true, true, false] rfl ?_
      exact K
    · have K := K.2 c5
      refine zi_iload dX3_bestStep_59 rfl ?_
      refine zi_istore (ls' := [some (.ref 48), some (.ref o), some (.ref (38 + k2)), some (.int x3), some (.int x4), some (.int x5), some (.int x6), some (.int x7), some (.int r2), some (.int x9), some (.int r2)]) dX3_bestStep_61 (by decide) rfl ?_
      refine zi_iload dX3_bestStep_63 rfl ?_
      refine zi_istore (ls' := [some (.ref 48), some (.ref o), some (.ref (38 + k2)), some (.int x3), some (.int x4), some (.int x5), some (.int x6), some (.int x9), some (.int r2), some (.int x9), some (.int r2)]) dX3_bestStep_65 (by decide) rfl ?_
      refine zi_iinc (v := x9 + 1) (ls' := [some (.ref 48), some (.ref o), some (.ref (38 + k2)), some (.int x3), some (.int x4), some (.int x5), some (.int x6), some (.int x9), some (.int r2), some (.int (x9 + 1)), some (.int r2)]) dX3_bestStep_67 rfl (by decide) rfl rfl ?_
      refine zi_goto (tgt := 23) dX3_bestStep_70 (by decide) ?_
      refine zi_mask [true, true, true, true, true, true, true, true, true, true, false] rfl ?_
      exact K
set_option maxRecDepth 100000 in
theorem tX3_leastFrom_0 {G : zG} {d b : Nat} {I : Nat → Nat → Int32} {L : Nat → Nat → Int64} {R : zR} {x3 : Int32} {x4 : Int32} {x5 : Int32} {x6 : Int32} {k2 : Nat} (hk2 : k2 < 5) {o : Nat} (ho : zhl o) (hR : zR0 R)
    (K : ((x4 < (I o 0) → (vp_in ((((x4 * 6) + x5) * 21) + x6) 1008 ∧ (((I 49 (zx ((((x4 * 6) + x5) * 21) + x6))) = 0 → (vp_in ((x4 * 6) + x5) 48 ∧ (vp_in ((x4 * 6) + x5) 48 ∧ (∃ (r6 : Int32) (I7 : Nat → Nat → Int32), zCall (d + 3) mX3_bestStep [.ref 48, .ref o, .ref (38 + k2), .int x3, .int x4, .int x5, .int (zpw k2 x6 (I (o + 1) (zx ((x4 * 6) + x5))) (I (o + 2) (zx ((x4 * 6) + x5))) x4)] (zh b I L) (some (.int r6), zh b I7 L) ∧ (∃ (r9 : Int32) (I10 : Nat → Nat → Int32), zCall (d + 3) mX3_leastFrom [.ref 48, .ref o, .ref (38 + k2), .int x3, .int (x4 + 1), .int (zlb (I7 o 1) x5 r6), .int (zpw k2 x6 (I (o + 1) (zx ((x4 * 6) + x5))) (I (o + 2) (zx ((x4 * 6) + x5))) x4)] (zh b I7 L) (some (.int r9), zh b I10 L) ∧ (vp_in ((((x4 * 6) + x5) * 21) + x6) 1008 ∧ (vp_in ((((x4 * 6) + x5) * 21) + x6) 1008 ∧ R = (some (.int ((zup I10 49 (zx ((((x4 * 6) + x5) * 21) + x6)) (((ztw k2 (I (o + 2) (zx ((x4 * 6) + x5))) (zpw k2 x6 (I (o + 1) (zx ((x4 * 6) + x5))) (I (o + 2) (zx ((x4 * 6) + x5))) x4)) + (x3 * (zhw k2 (I (o + 2) (zx ((x4 * 6) + x5))) x6 (zpw k2 x6 (I (o + 1) (zx ((x4 * 6) + x5))) (I (o + 2) (zx ((x4 * 6) + x5))) x4)))) + r9)) 49 (zx ((((x4 * 6) + x5) * 21) + x6)))), zh b (zup I10 49 (zx ((((x4 * 6) + x5) * 21) + x6)) (((ztw k2 (I (o + 2) (zx ((x4 * 6) + x5))) (zpw k2 x6 (I (o + 1) (zx ((x4 * 6) + x5))) (I (o + 2) (zx ((x4 * 6) + x5))) x4)) + (x3 * (zhw k2 (I (o + 2) (zx ((x4 * 6) + x5))) x6 (zpw k2 x6 (I (o + 1) (zx ((x4 * 6) + x5))) (I (o + 2) (zx ((x4 * 6) + x5))) x4)))) + r9)) L)))))))) ∧ (¬ (I 49 (zx ((((x4 * 6) + x5) * 21) + x6))) = 0 → (vp_in ((((x4 * 6) + x5) * 21) + x6) 1008 ∧ R = (some (.int (I 49 (zx ((((x4 * 6) + x5) * 21) + x6)))), zh b I L)))))) ∧ (¬ x4 < (I o 0) → R = (some (.int 0), zh b I L)))) :
    zA G (d + 4) mX3_leastFrom 0 [some (.ref 48), some (.ref o), some (.ref (38 + k2)), some (.int x3), some (.int x4), some (.int x5), some (.int x6), none, none, none, none] [] (zh b I L) R := by
  refine zi_iload dX3_leastFrom_0 rfl ?_
  refine zi_aload_n dX3_leastFrom_2 rfl rfl ?_
  refine zg_getI (k := 0) dX3_leastFrom_3 zc4 ho.sh ho.l0 (Nat.le_of_ble_eq_true rfl) u_38 rfl ?_
  refine zi_icmp_lt (tgt := 11) dX3_leastFrom_6 (by decide) (fun c1 => ?_) (fun c1 => ?_)
  · have K := K.1 c1
    refine zi_iload dX3_leastFrom_11 rfl ?_
    refine zi_iload dX3_leastFrom_13 rfl ?_
    refine zi_callSN (N := mX11_cell) (av := [.int x4, .int x5]) (st := []) (R1 := (some (.int ((x4 * 6) + x5)), zh b I L)) dX3_leastFrom_15 okX11_cell (by decide) u_315 arX11_cell rfl (Nat.le_of_ble_eq_true rfl) (kX11_cell _ _) hR ?_
    show zA G (d + 4) mX3_leastFrom 18 [some (.ref 48), some (.ref o), some (.ref (38 + k2)), some (.int x3), some (.int x4), some (.int x5), some (.int x6), none, none, none, none] [.int ((x4 * 6) + x5)] (zh b I L) R
    refine zi_bipush (v := 21) dX3_leastFrom_18 (by decide) ?_
    refine zi_imul dX3_leastFrom_20 ?_
    refine zi_iload dX3_leastFrom_21 rfl ?_
    refine zi_iadd dX3_leastFrom_23 ?_
    refine zi_istore (ls' := [some (.ref 48), some (.ref o), some (.ref (38 + k2)), some (.int x3), some (.int x4), some (.int x5), some (.int x6), some (.int ((((x4 * 6) + x5) * 21) + x6)), none, none, none]) dX3_leastFrom_24 (by decide) rfl ?_
    refine zi_aload_n dX3_leastFrom_26 rfl rfl ?_
    refine zg_getF (k := 0) (v := .ref 49) dX3_leastFrom_27 zc3 rfl (Nat.le_of_ble_eq_true rfl) (Nat.le_of_ble_eq_true rfl) u_195 rfl (rfl) ?_
    refine zi_iload dX3_leastFrom_30 rfl ?_
    have o2 := K.1
    have K := K.2
    refine zg_iaload dX3_leastFrom_32 (rfl) (Nat.le_of_ble_eq_true rfl) o2 ?_
    refine zi_if_eq (tgt := 44) dX3_leastFrom_33 (by decide) (fun c3 => ?_) (fun c3 => ?_)
    · have K := K.1 c3
      refine zi_aload_n dX3_leastFrom_44 rfl rfl ?_
      refine zg_getF (k := 6) (v := .ref (o + 2)) dX3_leastFrom_45 zc4 ho.sh ho.l0 (Nat.le_of_ble_eq_true rfl) u_62 rfl (ho.f6) ?_
      refine zi_iload dX3_leastFrom_48 rfl ?_
      refine zi_iload dX3_leastFrom_50 rfl ?_
      refine zi_callSN (N := mX11_cell) (av := [.int x4, .int x5]) (st := [.ref (o + 2)]) (R1 := (some (.int ((x4 * 6) + x5)), zh b I L)) dX3_leastFrom_52 okX11_cell (by decide) u_315 arX11_cell rfl (Nat.le_of_ble_eq_true rfl) (kX11_cell _ _) hR ?_
      show zA G (d + 4) mX3_leastFrom 55 [some (.ref 48), some (.ref o), some (.ref (38 + k2)), some (.int x3), some (.int x4), some (.int x5), some (.int x6), some (.int ((((x4 * 6) + x5) * 21) + x6)), none, none, none] [.int ((x4 * 6) + x5), .ref (o + 2)] (zh b I L) R
      have o4 := K.1
      have K := K.2
      refine zg_iaload dX3_leastFrom_55 (ho.s2) (ho.lt 2 (Nat.le_of_ble_eq_true rfl)) o4 ?_
      refine zi_istore (ls' := [some (.ref 48), some (.ref o), some (.ref (38 + k2)), some (.int x3), some (.int x4), some (.int x5), some (.int x6), some (.int ((((x4 * 6) + x5) * 21) + x6)), some (.int (I (o + 2) (zx ((x4 * 6) + x5)))), none, none]) dX3_leastFrom_56 (by decide) rfl ?_
      refine zi_aload_n dX3_leastFrom_58 rfl rfl ?_
      refine zi_iload dX3_leastFrom_59 rfl ?_
      refine zi_aload_n dX3_leastFrom_61 rfl rfl ?_
      refine zg_getF (k := 5) (v := .ref (o + 1)) dX3_leastFrom_62 zc4 ho.sh ho.l0 (Nat.le_of_ble_eq_true rfl) u_55 rfl (ho.f5) ?_
      refine zi_iload dX3_leastFrom_65 rfl ?_
      refine zi_iload dX3_leastFrom_67 rfl ?_
      refine zi_callSN (N := mX11_cell) (av := [.int x4, .int x5]) (st := [.ref (o + 1), .int x6, .ref (38 + k2)]) (R1 := (some (.int ((x4 * 6) + x5)), zh b I L)) dX3_leastFrom_69 okX11_cell (by decide) u_315 arX11_cell rfl (Nat.le_of_ble_eq_true rfl) (kX11_cell _ _) hR ?_
      show zA G (d + 4) mX3_leastFrom 72 [some (.ref 48), some (.ref o), some (.ref (38 + k2)), some (.int x3), some (.int x4), some (.int x5), some (.int x6), some (.int ((((x4 * 6) + x5) * 21) + x6)), some (.int (I (o + 2) (zx ((x4 * 6) + x5)))), none, none] [.int ((x4 * 6) + x5), .ref (o + 1), .int x6, .ref (38 + k2)] (zh b I L) R
      have o5 := K.1
      have K := K.2
      refine zg_iaload dX3_leastFrom_72 (ho.s1) (ho.lt 1 (Nat.le_of_ble_eq_true rfl)) o5 ?_
      refine zi_iload dX3_leastFrom_73 rfl ?_
      refine zi_iload dX3_leastFrom_75 rfl ?_
      refine zk_X3_newPace rfl hk2 (av := [.int x6, .int (I (o + 1) (zx ((x4 * 6) + x5))), .int (I (o + 2) (zx ((x4 * 6) + x5))), .int x4]) (st := []) (R1 := (some (.int (zpw k2 x6 (I (o + 1) (zx ((x4 * 6) + x5))) (I (o + 2) (zx ((x4 * 6) + x5))) x4)), zh b I L)) dX3_leastFrom_77 arX9_newPace rfl (Nat.le_of_ble_eq_true rfl) (kX9_newPace hk2 _ _ _ _) hR ?_
      show zA G (d + 4) mX3_leastFrom 80 [some (.ref 48), some (.ref o), some (.ref (38 + k2)), some (.int x3), some (.int x4), some (.int x5), some (.int x6), some (.int ((((x4 * 6) + x5) * 21) + x6)), some (.int (I (o + 2) (zx ((x4 * 6) + x5)))), none, none] [.int (zpw k2 x6 (I (o + 1) (zx ((x4 * 6) + x5))) (I (o + 2) (zx ((x4 * 6) + x5))) x4)] (zh b I L) R
      refine zi_istore (ls' := [some (.ref 48), some (.ref o), some (.ref (38 + k2)), some (.int x3), some (.int x4), some (.int x5), some (.int x6), some (.int ((((x4 * 6) + x5) * 21) + x6)), some (.int (I (o + 2) (zx ((x4 * 6) + x5)))), some (.int (zpw k2 x6 (I (o + 1) (zx ((x4 * 6) + x5))) (I (o + 2) (zx ((x4 * 6) + x5))) x4)), none]) dX3_leastFrom_80 (by decide) rfl ?_
      refine zi_aload_n dX3_leastFrom_82 rfl rfl ?_
      refine zi_aload_n dX3_leastFrom_83 rfl rfl ?_
      refine zi_aload_n dX3_leastFrom_84 rfl rfl ?_
      refine zi_iload_n dX3_leastFrom_85 rfl rfl ?_
      refine zi_iload dX3_leastFrom_86 rfl ?_
      refine zi_iload dX3_leastFrom_88 rfl ?_
      refine zi_iload dX3_leastFrom_90 rfl ?_
      obtain ⟨r6, I7, h8, K⟩ := K
      refine zi_callV (N := mX3_bestStep) (av := [.ref o, .ref (38 + k2), .int x3, .int x4, .int x5, .int (zpw k2 x6 (I (o + 1) (zx ((x4 * 6) + x5))) (I (o + 2) (zx ((x4 * 6) + x5))) x4)]) (st := []) (R1 := (some (.int r6), zh b I7 L)) dX3_leastFrom_92 okX3_bestStep u_586 u_588 s_13 zc3 (rfl) (Nat.le_of_ble_eq_true rfl) arX3_bestStep rfl (Nat.le_of_ble_eq_true rfl) (h8) hR ?_
      show zA G (d + 4) mX3_leastFrom 95 [some (.ref 48), some (.ref o), some (.ref (38 + k2)), some (.int x3), some (.int x4), some (.int x5), some (.int x6), some (.int ((((x4 * 6) + x5) * 21) + x6)), some (.int (I (o + 2) (zx ((x4 * 6) + x5)))), some (.int (zpw k2 x6 (I (o + 1) (zx ((x4 * 6) + x5))) (I (o + 2) (zx ((x4 * 6) + x5))) x4)), none] [.int r6] (zh b I7 L) R
      refine zi_istore (ls' := [some (.ref 48), some (.ref o), some (.ref (38 + k2)), some (.int x3), some (.int x4), some (.int x5), some (.int x6), some (.int ((((x4 * 6) + x5) * 21) + x6)), some (.int (I (o + 2) (zx ((x4 * 6) + x5)))), some (.int (zpw k2 x6 (I (o + 1) (zx ((x4 * 6) + x5))) (I (o + 2) (zx ((x4 * 6) + x5))) x4)), some (.int r6)]) dX3_leastFrom_95 (by decide) rfl ?_
      refine zi_aload_n dX3_leastFrom_97 rfl rfl ?_
      refine zg_getF (k := 0) (v := .ref 49) dX3_leastFrom_98 zc3 rfl (Nat.le_of_ble_eq_true rfl) (Nat.le_of_ble_eq_true rfl) u_195 rfl (rfl) ?_
      refine zi_iload dX3_leastFrom_101 rfl ?_
      refine zi_aload_n dX3_leastFrom_103 rfl rfl ?_
      refine zi_iload dX3_leastFrom_104 rfl ?_
      refine zi_iload dX3_leastFrom_106 rfl ?_
      refine zk_X3_timeIn rfl hk2 (av := [.int (I (o + 2) (zx ((x4 * 6) + x5))), .int (zpw k2 x6 (I (o + 1) (zx ((x4 * 6) + x5))) (I (o + 2) (zx ((x4 * 6) + x5))) x4)]) (st := [.int ((((x4 * 6) + x5) * 21) + x6), .ref 49]) (R1 := (some (.int (ztw k2 (I (o + 2) (zx ((x4 * 6) + x5))) (zpw k2 x6 (I (o + 1) (zx ((x4 * 6) + x5))) (I (o + 2) (zx ((x4 * 6) + x5))) x4))), zh b I7 L)) dX3_leastFrom_108 arX9_timeIn rfl (Nat.le_of_ble_eq_true rfl) (kX9_timeIn hk2 _ _) hR ?_
      show zA G (d + 4) mX3_leastFrom 111 [some (.ref 48), some (.ref o), some (.ref (38 + k2)), some (.int x3), some (.int x4), some (.int x5), some (.int x6), some (.int ((((x4 * 6) + x5) * 21) + x6)), some (.int (I (o + 2) (zx ((x4 * 6) + x5)))), some (.int (zpw k2 x6 (I (o + 1) (zx ((x4 * 6) + x5))) (I (o + 2) (zx ((x4 * 6) + x5))) x4)), some (.int r6)] [.int (ztw k2 (I (o + 2) (zx ((x4 * 6) + x5))) (zpw k2 x6 (I (o + 1) (zx ((x4 * 6) + x5))) (I (o + 2) (zx ((x4 * 6) + x5))) x4)), .int ((((x4 * 6) + x5) * 21) + x6), .ref 49] (zh b I7 L) R
      refine zi_iload_n dX3_leastFrom_111 rfl rfl ?_
      refine zi_aload_n dX3_leastFrom_112 rfl rfl ?_
      refine zi_iload dX3_leastFrom_113 rfl ?_
      refine zi_iload dX3_leastFrom_115 rfl ?_
      refine zi_iload dX3_leastFrom_117 rfl ?_
      refine zk_X3_harmIn rfl hk2 (av := [.int (I (o + 2) (zx ((x4 * 6) + x5))), .int x6, .int (zpw k2 x6 (I (o + 1) (zx ((x4 * 6) + x5))) (I (o + 2) (zx ((x4 * 6) + x5))) x4)]) (st := [.int x3, .int (ztw k2 (I (o + 2) (zx ((x4 * 6) + x5))) (zpw k2 x6 (I (o + 1) (zx ((x4 * 6) + x5))) (I (o + 2) (zx ((x4 * 6) + x5))) x4)), .int ((((x4 * 6) + x5) * 21) + x6), .ref 49]) (R1 := (some (.int (zhw k2 (I (o + 2) (zx ((x4 * 6) + x5))) x6 (zpw k2 x6 (I (o + 1) (zx ((x4 * 6) + x5))) (I (o + 2) (zx ((x4 * 6) + x5))) x4))), zh b I7 L)) dX3_leastFrom_119 arX9_harmIn rfl (Nat.le_of_ble_eq_true rfl) (kz_harmIn hk2 _ _ _) hR ?_
      show zA G (d + 4) mX3_leastFrom 122 [some (.ref 48), some (.ref o), some (.ref (38 + k2)), some (.int x3), some (.int x4), some (.int x5), some (.int x6), some (.int ((((x4 * 6) + x5) * 21) + x6)), some (.int (I (o + 2) (zx ((x4 * 6) + x5)))), some (.int (zpw k2 x6 (I (o + 1) (zx ((x4 * 6) + x5))) (I (o + 2) (zx ((x4 * 6) + x5))) x4)), some (.int r6)] [.int (zhw k2 (I (o + 2) (zx ((x4 * 6) + x5))) x6 (zpw k2 x6 (I (o + 1) (zx ((x4 * 6) + x5))) (I (o + 2) (zx ((x4 * 6) + x5))) x4)), .int x3, .int (ztw k2 (I (o + 2) (zx ((x4 * 6) + x5))) (zpw k2 x6 (I (o + 1) (zx ((x4 * 6) + x5))) (I (o + 2) (zx ((x4 * 6) + x5))) x4)), .int ((((x4 * 6) + x5) * 21) + x6), .ref 49] (zh b I7 L) R
      refine zi_imul dX3_leastFrom_122 ?_
      refine zi_iadd dX3_leastFrom_123 ?_
      refine zi_aload_n dX3_leastFrom_124 rfl rfl ?_
      refine zi_aload_n dX3_leastFrom_125 rfl rfl ?_
      refine zi_aload_n dX3_leastFrom_126 rfl rfl ?_
      refine zi_iload_n dX3_leastFrom_127 rfl rfl ?_
      refine zi_iload dX3_leastFrom_128 rfl ?_
      refine zi_iconst (v := 1) dX3_leastFrom_130 (by decide) ?_
      refine zi_iadd dX3_leastFrom_131 ?_
      refine zi_aload_n dX3_leastFrom_132 rfl rfl ?_
      refine zi_iload dX3_leastFrom_133 rfl ?_
      refine zi_iload dX3_leastFrom_135 rfl ?_
      refine zi_callV (N := mX4_laneBeyond) (av := [.int x5, .int r6]) (st := [.int (x4 + 1), .int x3, .ref (38 + k2), .ref o, .ref 48, .int ((ztw k2 (I (o + 2) (zx ((x4 * 6) + x5))) (zpw k2 x6 (I (o + 1) (zx ((x4 * 6) + x5))) (I (o + 2) (zx ((x4 * 6) + x5))) x4)) + (x3 * (zhw k2 (I (o + 2) (zx ((x4 * 6) + x5))) x6 (zpw k2 x6 (I (o + 1) (zx ((x4 * 6) + x5))) (I (o + 2) (zx ((x4 * 6) + x5))) x4)))), .int ((((x4 * 6) + x5) * 21) + x6), .ref 49]) (R1 := (some (.int (zlb (I7 o 1) x5 r6)), zh b I7 L)) dX3_leastFrom_137 okX4_laneBeyond u_590 u_554 u_555 zc4 (ho.sh) ho.l0 arX4_laneBeyond rfl (Nat.le_of_ble_eq_true rfl) (kX4_laneBeyond ho _ _) hR ?_
      show zA G (d + 4) mX3_leastFrom 140 [some (.ref 48), some (.ref o), some (.ref (38 + k2)), some (.int x3), some (.int x4), some (.int x5), some (.int x6), some (.int ((((x4 * 6) + x5) * 21) + x6)), some (.int (I (o + 2) (zx ((x4 * 6) + x5)))), some (.int (zpw k2 x6 (I (o + 1) (zx ((x4 * 6) + x5))) (I (o + 2) (zx ((x4 * 6) + x5))) x4)), some (.int r6)] [.int (zlb (I7 o 1) x5 r6), .int (x4 + 1), .int x3, .ref (38 + k2), .ref o, .ref 48, .int ((ztw k2 (I (o + 2) (zx ((x4 * 6) + x5))) (zpw k2 x6 (I (o + 1) (zx ((x4 * 6) + x5))) (I (o + 2) (zx ((x4 * 6) + x5))) x4)) + (x3 * (zhw k2 (I (o + 2) (zx ((x4 * 6) + x5))) x6 (zpw k2 x6 (I (o + 1) (zx ((x4 * 6) + x5))) (I (o + 2) (zx ((x4 * 6) + x5))) x4)))), .int ((((x4 * 6) + x5) * 21) + x6), .ref 49] (zh b I7 L) R
      refine zi_iload dX3_leastFrom_140 rfl ?_
      obtain ⟨r9, I10, h11, K⟩ := K
      refine zi_callV (N := mX3_leastFrom) (av := [.ref o, .ref (38 + k2), .int x3, .int (x4 + 1), .int (zlb (I7 o 1) x5 r6), .int (zpw k2 x6 (I (o + 1) (zx ((x4 * 6) + x5))) (I (o + 2) (zx ((x4 * 6) + x5))) x4)]) (st := [.int ((ztw k2 (I (o + 2) (zx ((x4 * 6) + x5))) (zpw k2 x6 (I (o + 1) (zx ((x4 * 6) + x5))) (I (o + 2) (zx ((x4 * 6) + x5))) x4)) + (x3 * (zhw k2 (I (o + 2) (zx ((x4 * 6) + x5))) x6 (zpw k2 x6 (I (o + 1) (zx ((x4 * 6) + x5))) (I (o + 2) (zx ((x4 * 6) + x5))) x4)))), .int ((((x4 * 6) + x5) * 21) + x6), .ref 49]) (R1 := (some (.int r9), zh b I10 L)) dX3_leastFrom_142 okX3_leastFrom u_580 u_582 s_12 zc3 (rfl) (Nat.le_of_ble_eq_true rfl) arX3_leastFrom rfl (Nat.le_of_ble_eq_true rfl) (h11) hR ?_
      show zA G (d + 4) mX3_leastFrom 145 [some (.ref 48), some (.ref o), some (.ref (38 + k2)), some (.int x3), some (.int x4), some (.int x5), some (.int x6), some (.int ((((x4 * 6) + x5) * 21) + x6)), some (.int (I (o + 2) (zx ((x4 * 6) + x5)))), some (.int (zpw k2 x6 (I (o + 1) (zx ((x4 * 6) + x5))) (I (o + 2) (zx ((x4 * 6) + x5))) x4)), some (.int r6)] [.int r9, .int ((ztw k2 (I (o + 2) (zx ((x4 * 6) + x5))) (zpw k2 x6 (I (o + 1) (zx ((x4 * 6) + x5))) (I (o + 2) (zx ((x4 * 6) + x5))) x4)) + (x3 * (zhw k2 (I (o + 2) (zx ((x4 * 6) + x5))) x6 (zpw k2 x6 (I (o + 1) (zx ((x4 * 6) + x5))) (I (o + 2) (zx ((x4 * 6) + x5))) x4)))), .int ((((x4 * 6) + x5) * 21) + x6), .ref 49] (zh b I10 L) R
      refine zi_iadd dX3_leastFrom_145 ?_
      have o12 := K.1
      have K := K.2
      refine zg_iastore dX3_leastFrom_146 (rfl) (Nat.le_of_ble_eq_true rfl) o12 ?_
      refine zi_aload_n dX3_leastFrom_147 rfl rfl ?_
      refine zg_getF (k := 0) (v := .ref 49) dX3_leastFrom_148 zc3 rfl (Nat.le_of_ble_eq_true rfl) (Nat.le_of_ble_eq_true rfl) u_195 rfl (rfl) ?_
      refine zi_iload dX3_leastFrom_151 rfl ?_
      have o13 := K.1
      have K := K.2
      refine zg_iaload dX3_leastFrom_153 (rfl) (Nat.le_of_ble_eq_true rfl) o13 ?_
      subst K
      exact zi_ireturn dX3_leastFrom_154 rfl rfl
    · have K := K.2 c3
      refine zi_aload_n dX3_leastFrom_36 rfl rfl ?_
      refine zg_getF (k := 0) (v := .ref 49) dX3_leastFrom_37 zc3 rfl (Nat.le_of_ble_eq_true rfl) (Nat.le_of_ble_eq_true rfl) u_195 rfl (rfl) ?_
      refine zi_iload dX3_leastFrom_40 rfl ?_
      have o14 := K.1
      have K := K.2
      refine zg_iaload dX3_leastFrom_42 (rfl) (Nat.le_of_ble_eq_true rfl) o14 ?_
      subst K
      exact zi_ireturn dX3_leastFrom_43 rfl rfl
  · have K := K.2 c1
    refine zi_iconst (v := 0) dX3_leastFrom_9 (by decide) ?_
    subst K
    exact zi_ireturn dX3_leastFrom_10 rfl rfl
