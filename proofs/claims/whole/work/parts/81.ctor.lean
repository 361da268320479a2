/-! THE CONSTRUCTORS, by program -/
theorem zu_obj : Cond.code Lib.objectInit ⟨#[0xb1]⟩ 1 none ∈ zU := u_29
theorem kX9_init {d i : Nat} {h : zH} : zCall (d + 1) mX9_init [.ref i] h (none, h) := by
  refine zCall.of okX9_init (Nat.le_of_ble_eq_true rfl) ⟨Nat.le_refl _, Nat.le_refl _⟩ (fun G => ?_)
  show zA G (d + 1) mX9_init 0 [some (.ref i)] [] h (none, h)
  refine zi_aload_n dX9_init_0 rfl rfl ?_
  refine zi_objInit dX9_init_1 u_119 u_28 zu_obj (Nat.le_of_ble_eq_true rfl) ?_
  exact zi_return dX9_init_4 rfl
theorem kX6_init {d i : Nat} {h : zH} (hi : i < h.1.1) : zCall (d + 2) mX6_init [.ref i] h (none, h) := by
  refine zCall.of okX6_init (Nat.le_of_ble_eq_true rfl) ⟨Nat.le_refl _, Nat.le_refl _⟩ (fun G => ?_)
  show zA G (d + 2) mX6_init 0 [some (.ref i)] [] h (none, h)
  refine zi_aload_n dX6_init_0 rfl rfl ?_
  refine zi_callIN (N := mX9_init) (i := i) (av := []) (st := []) (R1 := (none, h)) dX6_init_1 okX9_init (by decide) u_117 rfl rfl arX9_init hi rfl (Nat.le_of_ble_eq_true rfl) (kX9_init) ⟨Nat.le_refl _, Nat.le_refl _⟩ ?_
  exact zi_return dX6_init_4 rfl
theorem kX2_init {d i : Nat} {h : zH} (hi : i < h.1.1) : zCall (d + 2) mX2_init [.ref i] h (none, h) := by
  refine zCall.of okX2_init (Nat.le_of_ble_eq_true rfl) ⟨Nat.le_refl _, Nat.le_refl _⟩ (fun G => ?_)
  show zA G (d + 2) mX2_init 0 [some (.ref i)] [] h (none, h)
  refine zi_aload_n dX2_init_0 rfl rfl ?_
  refine zi_callIN (N := mX9_init) (i := i) (av := []) (st := []) (R1 := (none, h)) dX2_init_1 okX9_init (by decide) u_117 rfl rfl arX9_init hi rfl (Nat.le_of_ble_eq_true rfl) (kX9_init) ⟨Nat.le_refl _, Nat.le_refl _⟩ ?_
  exact zi_return dX2_init_4 rfl
theorem kX0_init {d i : Nat} {h : zH} (hi : i < h.1.1) : zCall (d + 2) mX0_init [.ref i] h (none, h) := by
  refine zCall.of okX0_init (Nat.le_of_ble_eq_true rfl) ⟨Nat.le_refl _, Nat.le_refl _⟩ (fun G => ?_)
  show zA G (d + 2) mX0_init 0 [some (.ref i)] [] h (none, h)
  refine zi_aload_n dX0_init_0 rfl rfl ?_
  refine zi_callIN (N := mX9_init) (i := i) (av := []) (st := []) (R1 := (none, h)) dX0_init_1 okX9_init (by decide) u_117 rfl rfl arX9_init hi rfl (Nat.le_of_ble_eq_true rfl) (kX9_init) ⟨Nat.le_refl _, Nat.le_refl _⟩ ?_
  exact zi_return dX0_init_4 rfl
theorem kX8_init {d i : Nat} {h : zH} (hi : i < h.1.1) : zCall (d + 3) mX8_init [.ref i] h (none, h) := by
  refine zCall.of okX8_init (Nat.le_of_ble_eq_true rfl) ⟨Nat.le_refl _, Nat.le_refl _⟩ (fun G => ?_)
  show zA G (d + 3) mX8_init 0 [some (.ref i)] [] h (none, h)
  refine zi_aload_n dX8_init_0 rfl rfl ?_
  refine zi_callIN (N := mX6_init) (i := i) (av := []) (st := []) (R1 := (none, h)) dX8_init_1 okX6_init (by decide) u_124 rfl rfl arX6_init hi rfl (Nat.le_of_ble_eq_true rfl) (kX6_init hi) ⟨Nat.le_refl _, Nat.le_refl _⟩ ?_
  exact zi_return dX8_init_4 rfl
set_option maxRecDepth 100000 in
theorem kX4_init_1 {d : Nat} {I : Nat → Nat → Int32} {L : Nat → Nat → Int64} {F : Nat → Nat → Value} (hI : ∀ i, 2 ≤ i → ∀ k, I i k = 0) (hL : ∀ i, 2 ≤ i → ∀ k, L i k = 0) (hF : ∀ k, F 1 k = zF 1 1 k) : zCall (d + 1) mX4_init [.ref 1] (zk 2 I L (zFk 1 0 F)) (none, zk 10 I L F) := by
  refine zCall.of okX4_init (Nat.le_of_ble_eq_true rfl) ⟨Nat.le_of_ble_eq_true rfl, Nat.le_of_ble_eq_true rfl⟩ (fun G => ?_)
  show zA G (d + 1) mX4_init 0 [some (.ref 1)] [] (zk 2 I L (zFk 1 0 F)) (none, zk 10 I L F)
  refine zi_aload_n dX4_init_0 rfl rfl ?_
  refine zi_objInit dX4_init_1 u_35 u_28 zu_obj (Nat.le_of_ble_eq_true rfl) ?_
  refine zi_aload_n dX4_init_4 rfl rfl ?_
  refine zi_bipush (v := 48) dX4_init_5 (by decide) ?_
  refine zn_arr (n := 2) (N := 48) (c := 100) (ty := .int) dX4_init_7 rfl (Or.inl ⟨rfl, rfl⟩) u_107 (by decide) (by decide) (by decide) rfl (by decide) rfl (hI 2 (by decide)) ⟨Nat.le_of_ble_eq_true rfl, Nat.le_of_ble_eq_true rfl⟩ ?_
  show zA G _ mX4_init 9 _ _ (zk 3 I L (zFk 1 0 F)) _
  refine zn_skip (i := 1) 5 (by decide) rfl (by decide) (by decide) ?_
  refine zn_put (i := 1) (k := 5) (j := 2) dX4_init_9 zc4 rfl (Nat.le_of_ble_eq_true rfl) (Nat.le_of_ble_eq_true rfl) u_54 (Or.inr ⟨rfl, rfl, rfl⟩) rfl (hF 5) ?_
  show zA G _ mX4_init 12 _ _ (zk 3 I L (zFk 1 6 F)) _
  refine zi_aload_n dX4_init_12 rfl rfl ?_
  refine zi_bipush (v := 48) dX4_init_13 (by decide) ?_
  refine zn_arr (n := 3) (N := 48) (c := 100) (ty := .int) dX4_init_15 rfl (Or.inl ⟨rfl, rfl⟩) u_107 (by decide) (by decide) (by decide) rfl (by decide) rfl (hI 3 (by decide)) ⟨Nat.le_of_ble_eq_true rfl, Nat.le_of_ble_eq_true rfl⟩ ?_
  show zA G _ mX4_init 17 _ _ (zk 4 I L (zFk 1 6 F)) _
  refine zn_put (i := 1) (k := 6) (j := 3) dX4_init_17 zc4 rfl (Nat.le_of_ble_eq_true rfl) (Nat.le_of_ble_eq_true rfl) u_59 (Or.inr ⟨rfl, rfl, rfl⟩) rfl (hF 6) ?_
  show zA G _ mX4_init 20 _ _ (zk 4 I L (zFk 1 7 F)) _
  refine zi_aload_n dX4_init_20 rfl rfl ?_
  refine zi_bipush (v := 6) dX4_init_21 (by decide) ?_
  refine zn_arr (n := 4) (N := 6) (c := 100) (ty := .int) dX4_init_23 rfl (Or.inl ⟨rfl, rfl⟩) u_107 (by decide) (by decide) (by decide) rfl (by decide) rfl (hI 4 (by decide)) ⟨Nat.le_of_ble_eq_true rfl, Nat.le_of_ble_eq_true rfl⟩ ?_
  show zA G _ mX4_init 25 _ _ (zk 5 I L (zFk 1 7 F)) _
  refine zn_put (i := 1) (k := 7) (j := 4) dX4_init_25 zc4 rfl (Nat.le_of_ble_eq_true rfl) (Nat.le_of_ble_eq_true rfl) u_65 (Or.inr ⟨rfl, rfl, rfl⟩) rfl (hF 7) ?_
  show zA G _ mX4_init 28 _ _ (zk 5 I L (zFk 1 8 F)) _
  refine zi_aload_n dX4_init_28 rfl rfl ?_
  refine zi_bipush (v := 6) dX4_init_29 (by decide) ?_
  refine zn_arr (n := 5) (N := 6) (c := 100) (ty := .int) dX4_init_31 rfl (Or.inl ⟨rfl, rfl⟩) u_107 (by decide) (by decide) (by decide) rfl (by decide) rfl (hI 5 (by decide)) ⟨Nat.le_of_ble_eq_true rfl, Nat.le_of_ble_eq_true rfl⟩ ?_
  show zA G _ mX4_init 33 _ _ (zk 6 I L (zFk 1 8 F)) _
  refine zn_put (i := 1) (k := 8) (j := 5) dX4_init_33 zc4 rfl (Nat.le_of_ble_eq_true rfl) (Nat.le_of_ble_eq_true rfl) u_68 (Or.inr ⟨rfl, rfl, rfl⟩) rfl (hF 8) ?_
  show zA G _ mX4_init 36 _ _ (zk 6 I L (zFk 1 9 F)) _
  refine zi_aload_n dX4_init_36 rfl rfl ?_
  refine zi_bipush (v := 6) dX4_init_37 (by decide) ?_
  refine zn_arr (n := 6) (N := 6) (c := 100) (ty := .int) dX4_init_39 rfl (Or.inl ⟨rfl, rfl⟩) u_107 (by decide) (by decide) (by decide) rfl (by decide) rfl (hI 6 (by decide)) ⟨Nat.le_of_ble_eq_true rfl, Nat.le_of_ble_eq_true rfl⟩ ?_
  show zA G _ mX4_init 41 _ _ (zk 7 I L (zFk 1 9 F)) _
  refine zn_put (i := 1) (k := 9) (j := 6) dX4_init_41 zc4 rfl (Nat.le_of_ble_eq_true rfl) (Nat.le_of_ble_eq_true rfl) u_71 (Or.inr ⟨rfl, rfl, rfl⟩) rfl (hF 9) ?_
  show zA G _ mX4_init 44 _ _ (zk 7 I L (zFk 1 10 F)) _
  refine zi_aload_n dX4_init_44 rfl rfl ?_
  refine zi_bipush (v := 48) dX4_init_45 (by decide) ?_
  refine zn_arr (n := 7) (N := 48) (c := 100) (ty := .int) dX4_init_47 rfl (Or.inl ⟨rfl, rfl⟩) u_107 (by decide) (by decide) (by decide) rfl (by decide) rfl (hI 7 (by decide)) ⟨Nat.le_of_ble_eq_true rfl, Nat.le_of_ble_eq_true rfl⟩ ?_
  show zA G _ mX4_init 49 _ _ (zk 8 I L (zFk 1 10 F)) _
  refine zn_put (i := 1) (k := 10) (j := 7) dX4_init_49 zc4 rfl (Nat.le_of_ble_eq_true rfl) (Nat.le_of_ble_eq_true rfl) u_73 (Or.inr ⟨rfl, rfl, rfl⟩) rfl (hF 10) ?_
  show zA G _ mX4_init 52 _ _ (zk 8 I L (zFk 1 11 F)) _
  refine zi_aload_n dX4_init_52 rfl rfl ?_
  refine zi_bipush (v := 8) dX4_init_53 (by decide) ?_
  refine zn_arr (n := 8) (N := 8) (c := 100) (ty := .int) dX4_init_55 rfl (Or.inl ⟨rfl, rfl⟩) u_107 (by decide) (by decide) (by decide) rfl (by decide) rfl (hI 8 (by decide)) ⟨Nat.le_of_ble_eq_true rfl, Nat.le_of_ble_eq_true rfl⟩ ?_
  show zA G _ mX4_init 57 _ _ (zk 9 I L (zFk 1 11 F)) _
  refine zn_put (i := 1) (k := 11) (j := 8) dX4_init_57 zc4 rfl (Nat.le_of_ble_eq_true rfl) (Nat.le_of_ble_eq_true rfl) u_77 (Or.inr ⟨rfl, rfl, rfl⟩) rfl (hF 11) ?_
  show zA G _ mX4_init 60 _ _ (zk 9 I L (zFk 1 12 F)) _
  refine zi_aload_n dX4_init_60 rfl rfl ?_
  refine zi_sipush (v := 288) dX4_init_61 (by decide) ?_
  refine zn_arr (n := 9) (N := 288) (c := 100) (ty := .int) dX4_init_64 rfl (Or.inl ⟨rfl, rfl⟩) u_107 (by decide) (by decide) (by decide) rfl (by decide) rfl (hI 9 (by decide)) ⟨Nat.le_of_ble_eq_true rfl, Nat.le_of_ble_eq_true rfl⟩ ?_
  show zA G _ mX4_init 66 _ _ (zk 10 I L (zFk 1 12 F)) _
  refine zn_put (i := 1) (k := 12) (j := 9) dX4_init_66 zc4 rfl (Nat.le_of_ble_eq_true rfl) (Nat.le_of_ble_eq_true rfl) u_79 (Or.inr ⟨rfl, rfl, rfl⟩) rfl (hF 12) ?_
  show zA G _ mX4_init 69 _ _ (zk 10 I L (zFk 1 13 F)) _
  refine zn_end (i := 1) (by decide) rfl (by decide) ?_
  exact zi_return dX4_init_69 rfl
set_option maxRecDepth 100000 in
theorem kX4_init_10 {d : Nat} {I : Nat → Nat → Int32} {L : Nat → Nat → Int64} {F : Nat → Nat → Value} (hI : ∀ i, 11 ≤ i → ∀ k, I i k = 0) (hL : ∀ i, 11 ≤ i → ∀ k, L i k = 0) (hF : ∀ k, F 10 k = zF 1 10 k) : zCall (d + 1) mX4_init [.ref 10] (zk 11 I L (zFk 10 0 F)) (none, zk 19 I L F) := by
  refine zCall.of okX4_init (Nat.le_of_ble_eq_true rfl) ⟨Nat.le_of_ble_eq_true rfl, Nat.le_of_ble_eq_true rfl⟩ (fun G => ?_)
  show zA G (d + 1) mX4_init 0 [some (.ref 10)] [] (zk 11 I L (zFk 10 0 F)) (none, zk 19 I L F)
  refine zi_aload_n dX4_init_0 rfl rfl ?_
  refine zi_objInit dX4_init_1 u_35 u_28 zu_obj (Nat.le_of_ble_eq_true rfl) ?_
  refine zi_aload_n dX4_init_4 rfl rfl ?_
  refine zi_bipush (v := 48) dX4_init_5 (by decide) ?_
  refine zn_arr (n := 11) (N := 48) (c := 100) (ty := .int) dX4_init_7 rfl (Or.inl ⟨rfl, rfl⟩) u_107 (by decide) (by decide) (by decide) rfl (by decide) rfl (hI 11 (by decide)) ⟨Nat.le_of_ble_eq_true rfl, Nat.le_of_ble_eq_true rfl⟩ ?_
  show zA G _ mX4_init 9 _ _ (zk 12 I L (zFk 10 0 F)) _
  refine zn_skip (i := 10) 5 (by decide) rfl (by decide) (by decide) ?_
  refine zn_put (i := 10) (k := 5) (j := 11) dX4_init_9 zc4 rfl (Nat.le_of_ble_eq_true rfl) (Nat.le_of_ble_eq_true rfl) u_54 (Or.inr ⟨rfl, rfl, rfl⟩) rfl (hF 5) ?_
  show zA G _ mX4_init 12 _ _ (zk 12 I L (zFk 10 6 F)) _
  refine zi_aload_n dX4_init_12 rfl rfl ?_
  refine zi_bipush (v := 48) dX4_init_13 (by decide) ?_
  refine zn_arr (n := 12) (N := 48) (c := 100) (ty := .int) dX4_init_15 rfl (Or.inl ⟨rfl, rfl⟩) u_107 (by decide) (by decide) (by decide) rfl (by decide) rfl (hI 12 (by decide)) ⟨Nat.le_of_ble_eq_true rfl, Nat.le_of_ble_eq_true rfl⟩ ?_
  show zA G _ mX4_init 17 _ _ (zk 13 I L (zFk 10 6 F)) _
  refine zn_put (i := 10) (k := 6) (j := 12) dX4_init_17 zc4 rfl (Nat.le_of_ble_eq_true rfl) (Nat.le_of_ble_eq_true rfl) u_59 (Or.inr ⟨rfl, rfl, rfl⟩) rfl (hF 6) ?_
  show zA G _ mX4_init 20 _ _ (zk 13 I L (zFk 10 7 F)) _
  refine zi_aload_n dX4_init_20 rfl rfl ?_
  refine zi_bipush (v := 6) dX4_init_21 (by decide) ?_
  refine zn_arr (n := 13) (N := 6) (c := 100) (ty := .int) dX4_init_23 rfl (Or.inl ⟨rfl, rfl⟩) u_107 (by decide) (by decide) (by decide) rfl (by decide) rfl (hI 13 (by decide)) ⟨Nat.le_of_ble_eq_true rfl, Nat.le_of_ble_eq_true rfl⟩ ?_
  show zA G _ mX4_init 25 _ _ (zk 14 I L (zFk 10 7 F)) _
  refine zn_put (i := 10) (k := 7) (j := 13) dX4_init_25 zc4 rfl (Nat.le_of_ble_eq_true rfl) (Nat.le_of_ble_eq_true rfl) u_65 (Or.inr ⟨rfl, rfl, rfl⟩) rfl (hF 7) ?_
  show zA G _ mX4_init 28 _ _ (zk 14 I L (zFk 10 8 F)) _
  refine zi_aload_n dX4_init_28 rfl rfl ?_
  refine zi_bipush (v := 6) dX4_init_29 (by decide) ?_
  refine zn_arr (n := 14) (N := 6) (c := 100) (ty := .int) dX4_init_31 rfl (Or.inl ⟨rfl, rfl⟩) u_107 (by decide) (by decide) (by decide) rfl (by decide) rfl (hI 14 (by decide)) ⟨Nat.le_of_ble_eq_true rfl, Nat.le_of_ble_eq_true rfl⟩ ?_
  show zA G _ mX4_init 33 _ _ (zk 15 I L (zFk 10 8 F)) _
  refine zn_put (i := 10) (k := 8) (j := 14) dX4_init_33 zc4 rfl (Nat.le_of_ble_eq_true rfl) (Nat.le_of_ble_eq_true rfl) u_68 (Or.inr ⟨rfl, rfl, rfl⟩) rfl (hF 8) ?_
  show zA G _ mX4_init 36 _ _ (zk 15 I L (zFk 10 9 F)) _
  refine zi_aload_n dX4_init_36 rfl rfl ?_
  refine zi_bipush (v := 6) dX4_init_37 (by decide) ?_
  refine zn_arr (n := 15) (N := 6) (c := 100) (ty := .int) dX4_init_39 rfl (Or.inl ⟨rfl, rfl⟩) u_107 (by decide) (by decide) (by decide) rfl (by decide) rfl (hI 15 (by decide)) ⟨Nat.le_of_ble_eq_true rfl, Nat.le_of_ble_eq_true rfl⟩ ?_
  show zA G _ mX4_init 41 _ _ (zk 16 I L (zFk 10 9 F)) _
  refine zn_put (i := 10) (k := 9) (j := 15) dX4_init_41 zc4 rfl (Nat.le_of_ble_eq_true rfl) (Nat.le_of_ble_eq_true rfl) u_71 (Or.inr ⟨rfl, rfl, rfl⟩) rfl (hF 9) ?_
  show zA G _ mX4_init 44 _ _ (zk 16 I L (zFk 10 10 F)) _
  refine zi_aload_n dX4_init_44 rfl rfl ?_
  refine zi_bipush (v := 48) dX4_init_45 (by decide) ?_
  refine zn_arr (n := 16) (N := 48) (c := 100) (ty := .int) dX4_init_47 rfl (Or.inl ⟨rfl, rfl⟩) u_107 (by decide) (by decide) (by decide) rfl (by decide) rfl (hI 16 (by decide)) ⟨Nat.le_of_ble_eq_true rfl, Nat.le_of_ble_eq_true rfl⟩ ?_
  show zA G _ mX4_init 49 _ _ (zk 17 I L (zFk 10 10 F)) _
  refine zn_put (i := 10) (k := 10) (j := 16) dX4_init_49 zc4 rfl (Nat.le_of_ble_eq_true rfl) (Nat.le_of_ble_eq_true rfl) u_73 (Or.inr ⟨rfl, rfl, rfl⟩) rfl (hF 10) ?_
  show zA G _ mX4_init 52 _ _ (zk 17 I L (zFk 10 11 F)) _
  refine zi_aload_n dX4_init_52 rfl rfl ?_
  refine zi_bipush (v := 8) dX4_init_53 (by decide) ?_
  refine zn_arr (n := 17) (N := 8) (c := 100) (ty := .int) dX4_init_55 rfl (Or.inl ⟨rfl, rfl⟩) u_107 (by decide) (by decide) (by decide) rfl (by decide) rfl (hI 17 (by decide)) ⟨Nat.le_of_ble_eq_true rfl, Nat.le_of_ble_eq_true rfl⟩ ?_
  show zA G _ mX4_init 57 _ _ (zk 18 I L (zFk 10 11 F)) _
  refine zn_put (i := 10) (k := 11) (j := 17) dX4_init_57 zc4 rfl (Nat.le_of_ble_eq_true rfl) (Nat.le_of_ble_eq_true rfl) u_77 (Or.inr ⟨rfl, rfl, rfl⟩) rfl (hF 11) ?_
  show zA G _ mX4_init 60 _ _ (zk 18 I L (zFk 10 12 F)) _
  refine zi_aload_n dX4_init_60 rfl rfl ?_
  refine zi_sipush (v := 288) dX4_init_61 (by decide) ?_
  refine zn_arr (n := 18) (N := 288) (c := 100) (ty := .int) dX4_init_64 rfl (Or.inl ⟨rfl, rfl⟩) u_107 (by decide) (by decide) (by decide) rfl (by decide) rfl (hI 18 (by decide)) ⟨Nat.le_of_ble_eq_true rfl, Nat.le_of_ble_eq_true rfl⟩ ?_
  show zA G _ mX4_init 66 _ _ (zk 19 I L (zFk 10 12 F)) _
  refine zn_put (i := 10) (k := 12) (j := 18) dX4_init_66 zc4 rfl (Nat.le_of_ble_eq_true rfl) (Nat.le_of_ble_eq_true rfl) u_79 (Or.inr ⟨rfl, rfl, rfl⟩) rfl (hF 12) ?_
  show zA G _ mX4_init 69 _ _ (zk 19 I L (zFk 10 13 F)) _
  refine zn_end (i := 10) (by decide) rfl (by decide) ?_
  exact zi_return dX4_init_69 rfl
set_option maxRecDepth 100000 in
theorem kX4_init_19 {d : Nat} {I : Nat → Nat → Int32} {L : Nat → Nat → Int64} {F : Nat → Nat → Value} (hI : ∀ i, 20 ≤ i → ∀ k, I i k = 0) (hL : ∀ i, 20 ≤ i → ∀ k, L i k = 0) (hF : ∀ k, F 19 k = zF 1 19 k) : zCall (d + 1) mX4_init [.ref 19] (zk 20 I L (zFk 19 0 F)) (none, zk 28 I L F) := by
  refine zCall.of okX4_init (Nat.le_of_ble_eq_true rfl) ⟨Nat.le_of_ble_eq_true rfl, Nat.le_of_ble_eq_true rfl⟩ (fun G => ?_)
  show zA G (d + 1) mX4_init 0 [some (.ref 19)] [] (zk 20 I L (zFk 19 0 F)) (none, zk 28 I L F)
  refine zi_aload_n dX4_init_0 rfl rfl ?_
  refine zi_objInit dX4_init_1 u_35 u_28 zu_obj (Nat.le_of_ble_eq_true rfl) ?_
  refine zi_aload_n dX4_init_4 rfl rfl ?_
  refine zi_bipush (v := 48) dX4_init_5 (by decide) ?_
  refine zn_arr (n := 20) (N := 48) (c := 100) (ty := .int) dX4_init_7 rfl (Or.inl ⟨rfl, rfl⟩) u_107 (by decide) (by decide) (by decide) rfl (by decide) rfl (hI 20 (by decide)) ⟨Nat.le_of_ble_eq_true rfl, Nat.le_of_ble_eq_true rfl⟩ ?_
  show zA G _ mX4_init 9 _ _ (zk 21 I L (zFk 19 0 F)) _
  refine zn_skip (i := 19) 5 (by decide) rfl (by decide) (by decide) ?_
  refine zn_put (i := 19) (k := 5) (j := 20) dX4_init_9 zc4 rfl (Nat.le_of_ble_eq_true rfl) (Nat.le_of_ble_eq_true rfl) u_54 (Or.inr ⟨rfl, rfl, rfl⟩) rfl (hF 5) ?_
  show zA G _ mX4_init 12 _ _ (zk 21 I L (zFk 19 6 F)) _
  refine zi_aload_n dX4_init_12 rfl rfl ?_
  refine zi_bipush (v := 48) dX4_init_13 (by decide) ?_
  refine zn_arr (n := 21) (N := 48) (c := 100) (ty := .int) dX4_init_15 rfl (Or.inl ⟨rfl, rfl⟩) u_107 (by decide) (by decide) (by decide) rfl (by decide) rfl (hI 21 (by decide)) ⟨Nat.le_of_ble_eq_true rfl, Nat.le_of_ble_eq_true rfl⟩ ?_
  show zA G _ mX4_init 17 _ _ (zk 22 I L (zFk 19 6 F)) _
  refine zn_put (i := 19) (k := 6) (j := 21) dX4_init_17 zc4 rfl (Nat.le_of_ble_eq_true rfl) (Nat.le_of_ble_eq_true rfl) u_59 (Or.inr ⟨rfl, rfl, rfl⟩) rfl (hF 6) ?_
  show zA G _ mX4_init 20 _ _ (zk 22 I L (zFk 19 7 F)) _
  refine zi_aload_n dX4_init_20 rfl rfl ?_
  refine zi_bipush (v := 6) dX4_init_21 (by decide) ?_
  refine zn_arr (n := 22) (N := 6) (c := 100) (ty := .int) dX4_init_23 rfl (Or.inl ⟨rfl, rfl⟩) u_107 (by decide) (by decide) (by decide) rfl (by decide) rfl (hI 22 (by decide)) ⟨Nat.le_of_ble_eq_true rfl, Nat.le_of_ble_eq_true rfl⟩ ?_
  show zA G _ mX4_init 25 _ _ (zk 23 I L (zFk 19 7 F)) _
  refine zn_put (i := 19) (k := 7) (j := 22) dX4_init_25 zc4 rfl (Nat.le_of_ble_eq_true rfl) (Nat.le_of_ble_eq_true rfl) u_65 (Or.inr ⟨rfl, rfl, rfl⟩) rfl (hF 7) ?_
  show zA G _ mX4_init 28 _ _ (zk 23 I L (zFk 19 8 F)) _
  refine zi_aload_n dX4_init_28 rfl rfl ?_
  refine zi_bipush (v := 6) dX4_init_29 (by decide) ?_
  refine zn_arr (n := 23) (N := 6) (c := 100) (ty := .int) dX4_init_31 rfl (Or.inl ⟨rfl, rfl⟩) u_107 (by decide) (by decide) (by decide) rfl (by decide) rfl (hI 23 (by decide)) ⟨Nat.le_of_ble_eq_true rfl, Nat.le_of_ble_eq_true rfl⟩ ?_
  show zA G _ mX4_init 33 _ _ (zk 24 I L (zFk 19 8 F)) _
  refine zn_put (i := 19) (k := 8) (j := 23) dX4_init_33 zc4 rfl (Nat.le_of_ble_eq_true rfl) (Nat.le_of_ble_eq_true rfl) u_68 (Or.inr ⟨rfl, rfl, rfl⟩) rfl (hF 8) ?_
  show zA G _ mX4_init 36 _ _ (zk 24 I L (zFk 19 9 F)) _
  refine zi_aload_n dX4_init_36 rfl rfl ?_
  refine zi_bipush (v := 6) dX4_init_37 (by decide) ?_
  refine zn_arr (n := 24) (N := 6) (c := 100) (ty := .int) dX4_init_39 rfl (Or.inl ⟨rfl, rfl⟩) u_107 (by decide) (by decide) (by decide) rfl (by decide) rfl (hI 24 (by decide)) ⟨Nat.le_of_ble_eq_true rfl, Nat.le_of_ble_eq_true rfl⟩ ?_
  show zA G _ mX4_init 41 _ _ (zk 25 I L (zFk 19 9 F)) _
  refine zn_put (i := 19) (k := 9) (j := 24) dX4_init_41 zc4 rfl (Nat.le_of_ble_eq_true rfl) (Nat.le_of_ble_eq_true rfl) u_71 (Or.inr ⟨rfl, rfl, rfl⟩) rfl (hF 9) ?_
  show zA G _ mX4_init 44 _ _ (zk 25 I L (zFk 19 10 F)) _
  refine zi_aload_n dX4_init_44 rfl rfl ?_
  refine zi_bipush (v := 48) dX4_init_45 (by decide) ?_
  refine zn_arr (n := 25) (N := 48) (c := 100) (ty := .int) dX4_init_47 rfl (Or.inl ⟨rfl, rfl⟩) u_107 (by decide) (by decide) (by decide) rfl (by decide) rfl (hI 25 (by decide)) ⟨Nat.le_of_ble_eq_true rfl, Nat.le_of_ble_eq_true rfl⟩ ?_
  show zA G _ mX4_init 49 _ _ (zk 26 I L (zFk 19 10 F)) _
  refine zn_put (i := 19) (k := 10) (j := 25) dX4_init_49 zc4 rfl (Nat.le_of_ble_eq_true rfl) (Nat.le_of_ble_eq_true rfl) u_73 (Or.inr ⟨rfl, rfl, rfl⟩) rfl (hF 10) ?_
  show zA G _ mX4_init 52 _ _ (zk 26 I L (zFk 19 11 F)) _
  refine zi_aload_n dX4_init_52 rfl rfl ?_
  refine zi_bipush (v := 8) dX4_init_53 (by decide) ?_
  refine zn_arr (n := 26) (N := 8) (c := 100) (ty := .int) dX4_init_55 rfl (Or.inl ⟨rfl, rfl⟩) u_107 (by decide) (by decide) (by decide) rfl (by decide) rfl (hI 26 (by decide)) ⟨Nat.le_of_ble_eq_true rfl, Nat.le_of_ble_eq_true rfl⟩ ?_
  show zA G _ mX4_init 57 _ _ (zk 27 I L (zFk 19 11 F)) _
  refine zn_put (i := 19) (k := 11) (j := 26) dX4_init_57 zc4 rfl (Nat.le_of_ble_eq_true rfl) (Nat.le_of_ble_eq_true rfl) u_77 (Or.inr ⟨rfl, rfl, rfl⟩) rfl (hF 11) ?_
  show zA G _ mX4_init 60 _ _ (zk 27 I L (zFk 19 12 F)) _
  refine zi_aload_n dX4_init_60 rfl rfl ?_
  refine zi_sipush (v := 288) dX4_init_61 (by decide) ?_
  refine zn_arr (n := 27) (N := 288) (c := 100) (ty := .int) dX4_init_64 rfl (Or.inl ⟨rfl, rfl⟩) u_107 (by decide) (by decide) (by decide) rfl (by decide) rfl (hI 27 (by decide)) ⟨Nat.le_of_ble_eq_true rfl, Nat.le_of_ble_eq_true rfl⟩ ?_
  show zA G _ mX4_init 66 _ _ (zk 28 I L (zFk 19 12 F)) _
  refine zn_put (i := 19) (k := 12) (j := 27) dX4_init_66 zc4 rfl (Nat.le_of_ble_eq_true rfl) (Nat.le_of_ble_eq_true rfl) u_79 (Or.inr ⟨rfl, rfl, rfl⟩) rfl (hF 12) ?_
  show zA G _ mX4_init 69 _ _ (zk 28 I L (zFk 19 13 F)) _
  refine zn_end (i := 19) (by decide) rfl (by decide) ?_
  exact zi_return dX4_init_69 rfl
set_option maxRecDepth 100000 in
theorem kX4_init_28 {d : Nat} {I : Nat → Nat → Int32} {L : Nat → Nat → Int64} {F : Nat → Nat → Value} (hI : ∀ i, 29 ≤ i → ∀ k, I i k = 0) (hL : ∀ i, 29 ≤ i → ∀ k, L i k = 0) (hF : ∀ k, F 28 k = zF 1 28 k) : zCall (d + 1) mX4_init [.ref 28] (zk 29 I L (zFk 28 0 F)) (none, zk 37 I L F) := by
  refine zCall.of okX4_init (Nat.le_of_ble_eq_true rfl) ⟨Nat.le_of_ble_eq_true rfl, Nat.le_of_ble_eq_true rfl⟩ (fun G => ?_)
  show zA G (d + 1) mX4_init 0 [some (.ref 28)] [] (zk 29 I L (zFk 28 0 F)) (none, zk 37 I L F)
  refine zi_aload_n dX4_init_0 rfl rfl ?_
  refine zi_objInit dX4_init_1 u_35 u_28 zu_obj (Nat.le_of_ble_eq_true rfl) ?_
  refine zi_aload_n dX4_init_4 rfl rfl ?_
  refine zi_bipush (v := 48) dX4_init_5 (by decide) ?_
  refine zn_arr (n := 29) (N := 48) (c := 100) (ty := .int) dX4_init_7 rfl (Or.inl ⟨rfl, rfl⟩) u_107 (by decide) (by decide) (by decide) rfl (by decide) rfl (hI 29 (by decide)) ⟨Nat.le_of_ble_eq_true rfl, Nat.le_of_ble_eq_true rfl⟩ ?_
  show zA G _ mX4_init 9 _ _ (zk 30 I L (zFk 28 0 F)) _
  refine zn_skip (i := 28) 5 (by decide) rfl (by decide) (by decide) ?_
  refine zn_put (i := 28) (k := 5) (j := 29) dX4_init_9 zc4 rfl (Nat.le_of_ble_eq_true rfl) (Nat.le_of_ble_eq_true rfl) u_54 (Or.inr ⟨rfl, rfl, rfl⟩) rfl (hF 5) ?_
  show zA G _ mX4_init 12 _ _ (zk 30 I L (zFk 28 6 F)) _
  refine zi_aload_n dX4_init_12 rfl rfl ?_
  refine zi_bipush (v := 48) dX4_init_13 (by decide) ?_
  refine zn_arr (n := 30) (N := 48) (c := 100) (ty := .int) dX4_init_15 rfl (Or.inl ⟨rfl, rfl⟩) u_107 (by decide) (by decide) (by decide) rfl (by decide) rfl (hI 30 (by decide)) ⟨Nat.le_of_ble_eq_true rfl, Nat.le_of_ble_eq_true rfl⟩ ?_
  show zA G _ mX4_init 17 _ _ (zk 31 I L (zFk 28 6 F)) _
  refine zn_put (i := 28) (k := 6) (j := 30) dX4_init_17 zc4 rfl (Nat.le_of_ble_eq_true rfl) (Nat.le_of_ble_eq_true rfl) u_59 (Or.inr ⟨rfl, rfl, rfl⟩) rfl (hF 6) ?_
  show zA G _ mX4_init 20 _ _ (zk 31 I L (zFk 28 7 F)) _
  refine zi_aload_n dX4_init_20 rfl rfl ?_
  refine zi_bipush (v := 6) dX4_init_21 (by decide) ?_
  refine zn_arr (n := 31) (N := 6) (c := 100) (ty := .int) dX4_init_23 rfl (Or.inl ⟨rfl, rfl⟩) u_107 (by decide) (by decide) (by decide) rfl (by decide) rfl (hI 31 (by decide)) ⟨Nat.le_of_ble_eq_true rfl, Nat.le_of_ble_eq_true rfl⟩ ?_
  show zA G _ mX4_init 25 _ _ (zk 32 I L (zFk 28 7 F)) _
  refine zn_put (i := 28) (k := 7) (j := 31) dX4_init_25 zc4 rfl (Nat.le_of_ble_eq_true rfl) (Nat.le_of_ble_eq_true rfl) u_65 (Or.inr ⟨rfl, rfl, rfl⟩) rfl (hF 7) ?_
  show zA G _ mX4_init 28 _ _ (zk 32 I L (zFk 28 8 F)) _
  refine zi_aload_n dX4_init_28 rfl rfl ?_
  refine zi_bipush (v := 6) dX4_init_29 (by decide) ?_
  refine zn_arr (n := 32) (N := 6) (c := 100) (ty := .int) dX4_init_31 rfl (Or.inl ⟨rfl, rfl⟩) u_107 (by decide) (by decide) (by decide) rfl (by decide) rfl (hI 32 (by decide)) ⟨Nat.le_of_ble_eq_true rfl, Nat.le_of_ble_eq_true rfl⟩ ?_
  show zA G _ mX4_init 33 _ _ (zk 33 I L (zFk 28 8 F)) _
  refine zn_put (i := 28) (k := 8) (j := 32) dX4_init_33 zc4 rfl (Nat.le_of_ble_eq_true rfl) (Nat.le_of_ble_eq_true rfl) u_68 (Or.inr ⟨rfl, rfl, rfl⟩) rfl (hF 8) ?_
  show zA G _ mX4_init 36 _ _ (zk 33 I L (zFk 28 9 F)) _
  refine zi_aload_n dX4_init_36 rfl rfl ?_
  refine zi_bipush (v := 6) dX4_init_37 (by decide) ?_
  refine zn_arr (n := 33) (N := 6) (c := 100) (ty := .int) dX4_init_39 rfl (Or.inl ⟨rfl, rfl⟩) u_107 (by decide) (by decide) (by decide) rfl (by decide) rfl (hI 33 (by decide)) ⟨Nat.le_of_ble_eq_true rfl, Nat.le_of_ble_eq_true rfl⟩ ?_
  show zA G _ mX4_init 41 _ _ (zk 34 I L (zFk 28 9 F)) _
  refine zn_put (i := 28) (k := 9) (j := 33) dX4_init_41 zc4 rfl (Nat.le_of_ble_eq_true rfl) (Nat.le_of_ble_eq_true rfl) u_71 (Or.inr ⟨rfl, rfl, rfl⟩) rfl (hF 9) ?_
  show zA G _ mX4_init 44 _ _ (zk 34 I L (zFk 28 10 F)) _
  refine zi_aload_n dX4_init_44 rfl rfl ?_
  refine zi_bipush (v := 48) dX4_init_45 (by decide) ?_
  refine zn_arr (n := 34) (N := 48) (c := 100) (ty := .int) dX4_init_47 rfl (Or.inl ⟨rfl, rfl⟩) u_107 (by decide) (by decide) (by decide) rfl (by decide) rfl (hI 34 (by decide)) ⟨Nat.le_of_ble_eq_true rfl, Nat.le_of_ble_eq_true rfl⟩ ?_
  show zA G _ mX4_init 49 _ _ (zk 35 I L (zFk 28 10 F)) _
  refine zn_put (i := 28) (k := 10) (j := 34) dX4_init_49 zc4 rfl (Nat.le_of_ble_eq_true rfl) (Nat.le_of_ble_eq_true rfl) u_73 (Or.inr ⟨rfl, rfl, rfl⟩) rfl (hF 10) ?_
  show zA G _ mX4_init 52 _ _ (zk 35 I L (zFk 28 11 F)) _
  refine zi_aload_n dX4_init_52 rfl rfl ?_
  refine zi_bipush (v := 8) dX4_init_53 (by decide) ?_
  refine zn_arr (n := 35) (N := 8) (c := 100) (ty := .int) dX4_init_55 rfl (Or.inl ⟨rfl, rfl⟩) u_107 (by decide) (by decide) (by decide) rfl (by decide) rfl (hI 35 (by decide)) ⟨Nat.le_of_ble_eq_true rfl, Nat.le_of_ble_eq_true rfl⟩ ?_
  show zA G _ mX4_init 57 _ _ (zk 36 I L (zFk 28 11 F)) _
  refine zn_put (i := 28) (k := 11) (j := 35) dX4_init_57 zc4 rfl (Nat.le_of_ble_eq_true rfl) (Nat.le_of_ble_eq_true rfl) u_77 (Or.inr ⟨rfl, rfl, rfl⟩) rfl (hF 11) ?_
  show zA G _ mX4_init 60 _ _ (zk 36 I L (zFk 28 12 F)) _
  refine zi_aload_n dX4_init_60 rfl rfl ?_
  refine zi_sipush (v := 288) dX4_init_61 (by decide) ?_
  refine zn_arr (n := 36) (N := 288) (c := 100) (ty := .int) dX4_init_64 rfl (Or.inl ⟨rfl, rfl⟩) u_107 (by decide) (by decide) (by decide) rfl (by decide) rfl (hI 36 (by decide)) ⟨Nat.le_of_ble_eq_true rfl, Nat.le_of_ble_eq_true rfl⟩ ?_
  show zA G _ mX4_init 66 _ _ (zk 37 I L (zFk 28 12 F)) _
  refine zn_put (i := 28) (k := 12) (j := 36) dX4_init_66 zc4 rfl (Nat.le_of_ble_eq_true rfl) (Nat.le_of_ble_eq_true rfl) u_79 (Or.inr ⟨rfl, rfl, rfl⟩) rfl (hF 12) ?_
  show zA G _ mX4_init 69 _ _ (zk 37 I L (zFk 28 13 F)) _
  refine zn_end (i := 28) (by decide) rfl (by decide) ?_
  exact zi_return dX4_init_69 rfl
set_option maxRecDepth 100000 in
theorem kX10_init {d : Nat} {I : Nat → Nat → Int32} {L : Nat → Nat → Int64} {F : Nat → Nat → Value} (hI : ∀ i, 44 ≤ i → ∀ k, I i k = 0) (hL : ∀ i, 44 ≤ i → ∀ k, L i k = 0) (hF : ∀ k, F 43 k = zF 1 43 k) : zCall (d + 1) mX10_init [.ref 43] (zk 44 I L (zFk 43 0 F)) (none, zk 48 I L F) := by
  refine zCall.of okX10_init (Nat.le_of_ble_eq_true rfl) ⟨Nat.le_of_ble_eq_true rfl, Nat.le_of_ble_eq_true rfl⟩ (fun G => ?_)
  show zA G (d + 1) mX10_init 0 [some (.ref 43)] [] (zk 44 I L (zFk 43 0 F)) (none, zk 48 I L F)
  refine zi_aload_n dX10_init_0 rfl rfl ?_
  refine zi_objInit dX10_init_1 u_171 u_28 zu_obj (Nat.le_of_ble_eq_true rfl) ?_
  refine zi_aload_n dX10_init_4 rfl rfl ?_
  refine zi_bipush (v := 54) dX10_init_5 (by decide) ?_
  refine zn_arr (n := 44) (N := 54) (c := 100) (ty := .int) dX10_init_7 rfl (Or.inl ⟨rfl, rfl⟩) u_107 (by decide) (by decide) (by decide) rfl (by decide) rfl (hI 44 (by decide)) ⟨Nat.le_of_ble_eq_true rfl, Nat.le_of_ble_eq_true rfl⟩ ?_
  show zA G _ mX10_init 9 _ _ (zk 45 I L (zFk 43 0 F)) _
  refine zn_put (i := 43) (k := 0) (j := 44) dX10_init_9 zc10 rfl (Nat.le_of_ble_eq_true rfl) (Nat.le_of_ble_eq_true rfl) u_172 (Or.inr ⟨rfl, rfl, rfl⟩) rfl (hF 0) ?_
  show zA G _ mX10_init 12 _ _ (zk 45 I L (zFk 43 1 F)) _
  refine zi_aload_n dX10_init_12 rfl rfl ?_
  refine zi_bipush (v := 54) dX10_init_13 (by decide) ?_
  refine zn_arr (n := 45) (N := 54) (c := 100) (ty := .int) dX10_init_15 rfl (Or.inl ⟨rfl, rfl⟩) u_107 (by decide) (by decide) (by decide) rfl (by decide) rfl (hI 45 (by decide)) ⟨Nat.le_of_ble_eq_true rfl, Nat.le_of_ble_eq_true rfl⟩ ?_
  show zA G _ mX10_init 17 _ _ (zk 46 I L (zFk 43 1 F)) _
  refine zn_put (i := 43) (k := 1) (j := 45) dX10_init_17 zc10 rfl (Nat.le_of_ble_eq_true rfl) (Nat.le_of_ble_eq_true rfl) u_174 (Or.inr ⟨rfl, rfl, rfl⟩) rfl (hF 1) ?_
  show zA G _ mX10_init 20 _ _ (zk 46 I L (zFk 43 2 F)) _
  refine zi_aload_n dX10_init_20 rfl rfl ?_
  refine zi_bipush (v := 54) dX10_init_21 (by decide) ?_
  refine zn_arr (n := 46) (N := 54) (c := 100) (ty := .int) dX10_init_23 rfl (Or.inl ⟨rfl, rfl⟩) u_107 (by decide) (by decide) (by decide) rfl (by decide) rfl (hI 46 (by decide)) ⟨Nat.le_of_ble_eq_true rfl, Nat.le_of_ble_eq_true rfl⟩ ?_
  show zA G _ mX10_init 25 _ _ (zk 47 I L (zFk 43 2 F)) _
  refine zn_put (i := 43) (k := 2) (j := 46) dX10_init_25 zc10 rfl (Nat.le_of_ble_eq_true rfl) (Nat.le_of_ble_eq_true rfl) u_176 (Or.inr ⟨rfl, rfl, rfl⟩) rfl (hF 2) ?_
  show zA G _ mX10_init 28 _ _ (zk 47 I L (zFk 43 3 F)) _
  refine zi_aload_n dX10_init_28 rfl rfl ?_
  refine zi_bipush (v := 54) dX10_init_29 (by decide) ?_
  refine zn_arr (n := 47) (N := 54) (c := 100) (ty := .int) dX10_init_31 rfl (Or.inl ⟨rfl, rfl⟩) u_107 (by decide) (by decide) (by decide) rfl (by decide) rfl (hI 47 (by decide)) ⟨Nat.le_of_ble_eq_true rfl, Nat.le_of_ble_eq_true rfl⟩ ?_
  show zA G _ mX10_init 33 _ _ (zk 48 I L (zFk 43 3 F)) _
  refine zn_put (i := 43) (k := 3) (j := 47) dX10_init_33 zc10 rfl (Nat.le_of_ble_eq_true rfl) (Nat.le_of_ble_eq_true rfl) u_178 (Or.inr ⟨rfl, rfl, rfl⟩) rfl (hF 3) ?_
  show zA G _ mX10_init 36 _ _ (zk 48 I L (zFk 43 4 F)) _
  refine zn_end (i := 43) (by decide) rfl (by decide) ?_
  exact zi_return dX10_init_36 rfl
set_option maxRecDepth 100000 in
theorem kX3_init {d : Nat} {I : Nat → Nat → Int32} {L : Nat → Nat → Int64} {F : Nat → Nat → Value} (hI : ∀ i, 49 ≤ i → ∀ k, I i k = 0) (hL : ∀ i, 49 ≤ i → ∀ k, L i k = 0) (hF : ∀ k, F 48 k = zF 1 48 k) : zCall (d + 1) mX3_init [.ref 48] (zk 49 I L (zFk 48 0 F)) (none, zk 50 I L F) := by
  refine zCall.of okX3_init (Nat.le_of_ble_eq_true rfl) ⟨Nat.le_of_ble_eq_true rfl, Nat.le_of_ble_eq_true rfl⟩ (fun G => ?_)
  show zA G (d + 1) mX3_init 0 [some (.ref 48)] [] (zk 49 I L (zFk 48 0 F)) (none, zk 50 I L F)
  refine zi_aload_n dX3_init_0 rfl rfl ?_
  refine zi_objInit dX3_init_1 u_194 u_28 zu_obj (Nat.le_of_ble_eq_true rfl) ?_
  refine zi_aload_n dX3_init_4 rfl rfl ?_
  refine zi_sipush (v := 1008) dX3_init_5 (by decide) ?_
  refine zn_arr (n := 49) (N := 1008) (c := 100) (ty := .int) dX3_init_8 rfl (Or.inl ⟨rfl, rfl⟩) u_107 (by decide) (by decide) (by decide) rfl (by decide) rfl (hI 49 (by decide)) ⟨Nat.le_of_ble_eq_true rfl, Nat.le_of_ble_eq_true rfl⟩ ?_
  show zA G _ mX3_init 10 _ _ (zk 50 I L (zFk 48 0 F)) _
  refine zn_put (i := 48) (k := 0) (j := 49) dX3_init_10 zc3 rfl (Nat.le_of_ble_eq_true rfl) (Nat.le_of_ble_eq_true rfl) u_195 (Or.inr ⟨rfl, rfl, rfl⟩) rfl (hF 0) ?_
  show zA G _ mX3_init 13 _ _ (zk 50 I L (zFk 48 1 F)) _
  refine zn_end (i := 48) (by decide) rfl (by decide) ?_
  exact zi_return dX3_init_13 rfl
set_option maxRecDepth 100000 in
theorem kX1_init {d : Nat} {I : Nat → Nat → Int32} {L : Nat → Nat → Int64} {F : Nat → Nat → Value} (hI : ∀ i, 51 ≤ i → ∀ k, I i k = 0) (hL : ∀ i, 51 ≤ i → ∀ k, L i k = 0) (hF : ∀ k, F 50 k = zF 1 50 k) : zCall (d + 1) mX1_init [.ref 50] (zk 51 I L (zFk 50 0 F)) (none, zk 53 I L F) := by
  refine zCall.of okX1_init (Nat.le_of_ble_eq_true rfl) ⟨Nat.le_of_ble_eq_true rfl, Nat.le_of_ble_eq_true rfl⟩ (fun G => ?_)
  show zA G (d + 1) mX1_init 0 [some (.ref 50)] [] (zk 51 I L (zFk 50 0 F)) (none, zk 53 I L F)
  refine zi_aload_n dX1_init_0 rfl rfl ?_
  refine zi_objInit dX1_init_1 u_204 u_28 zu_obj (Nat.le_of_ble_eq_true rfl) ?_
  refine zi_aload_n dX1_init_4 rfl rfl ?_
  refine zi_bipush (v := 6) dX1_init_5 (by decide) ?_
  refine zn_arr (n := 51) (N := 6) (c := 100) (ty := .int) dX1_init_7 rfl (Or.inl ⟨rfl, rfl⟩) u_107 (by decide) (by decide) (by decide) rfl (by decide) rfl (hI 51 (by decide)) ⟨Nat.le_of_ble_eq_true rfl, Nat.le_of_ble_eq_true rfl⟩ ?_
  show zA G _ mX1_init 9 _ _ (zk 52 I L (zFk 50 0 F)) _
  refine zn_put (i := 50) (k := 0) (j := 51) dX1_init_9 zc1 rfl (Nat.le_of_ble_eq_true rfl) (Nat.le_of_ble_eq_true rfl) u_205 (Or.inr ⟨rfl, rfl, rfl⟩) rfl (hF 0) ?_
  show zA G _ mX1_init 12 _ _ (zk 52 I L (zFk 50 1 F)) _
  refine zi_aload_n dX1_init_12 rfl rfl ?_
  refine zi_bipush (v := 6) dX1_init_13 (by decide) ?_
  refine zn_arr (n := 52) (N := 6) (c := 100) (ty := .int) dX1_init_15 rfl (Or.inl ⟨rfl, rfl⟩) u_107 (by decide) (by decide) (by decide) rfl (by decide) rfl (hI 52 (by decide)) ⟨Nat.le_of_ble_eq_true rfl, Nat.le_of_ble_eq_true rfl⟩ ?_
  show zA G _ mX1_init 17 _ _ (zk 53 I L (zFk 50 1 F)) _
  refine zn_put (i := 50) (k := 1) (j := 52) dX1_init_17 zc1 rfl (Nat.le_of_ble_eq_true rfl) (Nat.le_of_ble_eq_true rfl) u_207 (Or.inr ⟨rfl, rfl, rfl⟩) rfl (hF 1) ?_
  show zA G _ mX1_init 20 _ _ (zk 53 I L (zFk 50 2 F)) _
  refine zn_end (i := 50) (by decide) rfl (by decide) ?_
  exact zi_return dX1_init_20 rfl
set_option maxRecDepth 100000 in
theorem kX7_init {d : Nat} {I : Nat → Nat → Int32} {L : Nat → Nat → Int64} {F : Nat → Nat → Value} (hI : ∀ i, 54 ≤ i → ∀ k, I i k = 0) (hL : ∀ i, 54 ≤ i → ∀ k, L i k = 0) (hF : ∀ k, F 53 k = zF 1 53 k) : zCall (d + 1) mX7_init [.ref 53] (zk 54 I L (zFk 53 0 F)) (none, zk 55 I L F) := by
  refine zCall.of okX7_init (Nat.le_of_ble_eq_true rfl) ⟨Nat.le_of_ble_eq_true rfl, Nat.le_of_ble_eq_true rfl⟩ (fun G => ?_)
  show zA G (d + 1) mX7_init 0 [some (.ref 53)] [] (zk 54 I L (zFk 53 0 F)) (none, zk 55 I L F)
  refine zi_aload_n dX7_init_0 rfl rfl ?_
  refine zi_objInit dX7_init_1 u_218 u_28 zu_obj (Nat.le_of_ble_eq_true rfl) ?_
  refine zi_aload_n dX7_init_4 rfl rfl ?_
  refine zi_sipush (v := 250) dX7_init_5 (by decide) ?_
  refine zn_arr (n := 54) (N := 250) (c := 100) (ty := .int) dX7_init_8 rfl (Or.inl ⟨rfl, rfl⟩) u_107 (by decide) (by decide) (by decide) rfl (by decide) rfl (hI 54 (by decide)) ⟨Nat.le_of_ble_eq_true rfl, Nat.le_of_ble_eq_true rfl⟩ ?_
  show zA G _ mX7_init 10 _ _ (zk 55 I L (zFk 53 0 F)) _
  refine zn_put (i := 53) (k := 0) (j := 54) dX7_init_10 zc7 rfl (Nat.le_of_ble_eq_true rfl) (Nat.le_of_ble_eq_true rfl) u_219 (Or.inr ⟨rfl, rfl, rfl⟩) rfl (hF 0) ?_
  show zA G _ mX7_init 13 _ _ (zk 55 I L (zFk 53 1 F)) _
  refine zn_end (i := 53) (by decide) rfl (by decide) ?_
  exact zi_return dX7_init_13 rfl
set_option maxRecDepth 100000 in
theorem kX5_init {d : Nat} {I : Nat → Nat → Int32} {L : Nat → Nat → Int64} {F : Nat → Nat → Value} (hI : ∀ i, 38 ≤ i → ∀ k, I i k = 0) (hL : ∀ i, 38 ≤ i → ∀ k, L i k = 0) (hF : ∀ k, F 37 k = zF 1 37 k) : zCall (d + 4) mX5_init [.ref 37] (zk 38 I L (zFk 37 0 F)) (none, zk 43 I L F) := by
  refine zCall.of okX5_init (Nat.le_of_ble_eq_true rfl) ⟨Nat.le_of_ble_eq_true rfl, Nat.le_of_ble_eq_true rfl⟩ (fun G => ?_)
  show zA G (d + 4) mX5_init 0 [some (.ref 37)] [] (zk 38 I L (zFk 37 0 F)) (none, zk 43 I L F)
  refine zi_aload_n dX5_init_0 rfl rfl ?_
  refine zi_objInit dX5_init_1 u_113 u_28 zu_obj (Nat.le_of_ble_eq_true rfl) ?_
  refine zi_aload_n dX5_init_4 rfl rfl ?_
  refine zn_new (n := 38) dX5_init_5 zc9 u_114 u_115 u_4 rfl (by decide) rfl (hI 38 (by decide)) (hL 38 (by decide)) ⟨Nat.le_of_ble_eq_true rfl, Nat.le_of_ble_eq_true rfl⟩ ?_
  refine zn_end (i := 38) (by decide) rfl (by decide) ?_
  show zA G _ mX5_init 8 _ _ (zk 39 I L (zFk 37 0 F)) _
  refine zi_dup dX5_init_8 rfl ?_
  refine zi_callIN (h := zk 39 I L (zFk 37 0 F)) (N := mX9_init) (i := 38) (av := []) (st := [.ref 38, .ref 37]) (R1 := (none, zk 39 I L (zFk 37 0 F))) dX5_init_9 okX9_init (by decide) u_117 rfl rfl arX9_init (Nat.le_of_ble_eq_true rfl) rfl (Nat.le_of_ble_eq_true rfl) (kX9_init) ⟨Nat.le_of_ble_eq_true rfl, Nat.le_of_ble_eq_true rfl⟩ ?_
  show zA G _ mX5_init 12 _ [.ref 38, .ref 37] (zk 39 I L (zFk 37 0 F)) _
  refine zn_put (i := 37) (k := 0) (j := 38) dX5_init_12 zc5 rfl (Nat.le_of_ble_eq_true rfl) (Nat.le_of_ble_eq_true rfl) u_149 (Or.inr ⟨rfl, rfl, rfl⟩) rfl (hF 0) ?_
  show zA G _ mX5_init 15 _ _ (zk 39 I L (zFk 37 1 F)) _
  refine zi_aload_n dX5_init_15 rfl rfl ?_
  refine zn_new (n := 39) dX5_init_16 zc6 u_121 u_122 u_5 rfl (by decide) rfl (hI 39 (by decide)) (hL 39 (by decide)) ⟨Nat.le_of_ble_eq_true rfl, Nat.le_of_ble_eq_true rfl⟩ ?_
  refine zn_end (i := 39) (by decide) rfl (by decide) ?_
  show zA G _ mX5_init 19 _ _ (zk 40 I L (zFk 37 1 F)) _
  refine zi_dup dX5_init_19 rfl ?_
  refine zi_callIN (h := zk 40 I L (zFk 37 1 F)) (N := mX6_init) (i := 39) (av := []) (st := [.ref 39, .ref 37]) (R1 := (none, zk 40 I L (zFk 37 1 F))) dX5_init_20 okX6_init (by decide) u_124 rfl rfl arX6_init (Nat.le_of_ble_eq_true rfl) rfl (Nat.le_of_ble_eq_true rfl) (kX6_init (Nat.le_of_ble_eq_true rfl)) ⟨Nat.le_of_ble_eq_true rfl, Nat.le_of_ble_eq_true rfl⟩ ?_
  show zA G _ mX5_init 23 _ [.ref 39, .ref 37] (zk 40 I L (zFk 37 1 F)) _
  refine zn_put (i := 37) (k := 1) (j := 39) dX5_init_23 zc5 rfl (Nat.le_of_ble_eq_true rfl) (Nat.le_of_ble_eq_true rfl) u_150 (Or.inr ⟨rfl, rfl, rfl⟩) rfl (hF 1) ?_
  show zA G _ mX5_init 26 _ _ (zk 40 I L (zFk 37 2 F)) _
  refine zi_aload_n dX5_init_26 rfl rfl ?_
  refine zn_new (n := 40) dX5_init_27 zc8 u_128 u_129 u_6 rfl (by decide) rfl (hI 40 (by decide)) (hL 40 (by decide)) ⟨Nat.le_of_ble_eq_true rfl, Nat.le_of_ble_eq_true rfl⟩ ?_
  refine zn_end (i := 40) (by decide) rfl (by decide) ?_
  show zA G _ mX5_init 30 _ _ (zk 41 I L (zFk 37 2 F)) _
  refine zi_dup dX5_init_30 rfl ?_
  refine zi_callIN (h := zk 41 I L (zFk 37 2 F)) (N := mX8_init) (i := 40) (av := []) (st := [.ref 40, .ref 37]) (R1 := (none, zk 41 I L (zFk 37 2 F))) dX5_init_31 okX8_init (by decide) u_131 rfl rfl arX8_init (Nat.le_of_ble_eq_true rfl) rfl (Nat.le_of_ble_eq_true rfl) (kX8_init (Nat.le_of_ble_eq_true rfl)) ⟨Nat.le_of_ble_eq_true rfl, Nat.le_of_ble_eq_true rfl⟩ ?_
  show zA G _ mX5_init 34 _ [.ref 40, .ref 37] (zk 41 I L (zFk 37 2 F)) _
  refine zn_put (i := 37) (k := 2) (j := 40) dX5_init_34 zc5 rfl (Nat.le_of_ble_eq_true rfl) (Nat.le_of_ble_eq_true rfl) u_151 (Or.inr ⟨rfl, rfl, rfl⟩) rfl (hF 2) ?_
  show zA G _ mX5_init 37 _ _ (zk 41 I L (zFk 37 3 F)) _
  refine zi_aload_n dX5_init_37 rfl rfl ?_
  refine zn_new (n := 41) dX5_init_38 zc2 u_135 u_136 u_7 rfl (by decide) rfl (hI 41 (by decide)) (hL 41 (by decide)) ⟨Nat.le_of_ble_eq_true rfl, Nat.le_of_ble_eq_true rfl⟩ ?_
  refine zn_end (i := 41) (by decide) rfl (by decide) ?_
  show zA G _ mX5_init 41 _ _ (zk 42 I L (zFk 37 3 F)) _
  refine zi_dup dX5_init_41 rfl ?_
  refine zi_callIN (h := zk 42 I L (zFk 37 3 F)) (N := mX2_init) (i := 41) (av := []) (st := [.ref 41, .ref 37]) (R1 := (none, zk 42 I L (zFk 37 3 F))) dX5_init_42 okX2_init (by decide) u_138 rfl rfl arX2_init (Nat.le_of_ble_eq_true rfl) rfl (Nat.le_of_ble_eq_true rfl) (kX2_init (Nat.le_of_ble_eq_true rfl)) ⟨Nat.le_of_ble_eq_true rfl, Nat.le_of_ble_eq_true rfl⟩ ?_
  show zA G _ mX5_init 45 _ [.ref 41, .ref 37] (zk 42 I L (zFk 37 3 F)) _
  refine zn_put (i := 37) (k := 3) (j := 41) dX5_init_45 zc5 rfl (Nat.le_of_ble_eq_true rfl) (Nat.le_of_ble_eq_true rfl) u_153 (Or.inr ⟨rfl, rfl, rfl⟩) rfl (hF 3) ?_
  show zA G _ mX5_init 48 _ _ (zk 42 I L (zFk 37 4 F)) _
  refine zi_aload_n dX5_init_48 rfl rfl ?_
  refine zn_new (n := 42) dX5_init_49 zc0 u_142 u_143 u_8 rfl (by decide) rfl (hI 42 (by decide)) (hL 42 (by decide)) ⟨Nat.le_of_ble_eq_true rfl, Nat.le_of_ble_eq_true rfl⟩ ?_
  refine zn_end (i := 42) (by decide) rfl (by decide) ?_
  show zA G _ mX5_init 52 _ _ (zk 43 I L (zFk 37 4 F)) _
  refine zi_dup dX5_init_52 rfl ?_
  refine zi_callIN (h := zk 43 I L (zFk 37 4 F)) (N := mX0_init) (i := 42) (av := []) (st := [.ref 42, .ref 37]) (R1 := (none, zk 43 I L (zFk 37 4 F))) dX5_init_53 okX0_init (by decide) u_145 rfl rfl arX0_init (Nat.le_of_ble_eq_true rfl) rfl (Nat.le_of_ble_eq_true rfl) (kX0_init (Nat.le_of_ble_eq_true rfl)) ⟨Nat.le_of_ble_eq_true rfl, Nat.le_of_ble_eq_true rfl⟩ ?_
  show zA G _ mX5_init 56 _ [.ref 42, .ref 37] (zk 43 I L (zFk 37 4 F)) _
  refine zn_put (i := 37) (k := 4) (j := 42) dX5_init_56 zc5 rfl (Nat.le_of_ble_eq_true rfl) (Nat.le_of_ble_eq_true rfl) u_154 (Or.inr ⟨rfl, rfl, rfl⟩) rfl (hF 4) ?_
  show zA G _ mX5_init 59 _ _ (zk 43 I L (zFk 37 5 F)) _
  refine zn_end (i := 37) (by decide) rfl (by decide) ?_
  exact zi_return dX5_init_59 rfl
def zL1 (L : Nat → Nat → Int64) : Nat → Nat → Int64 := zupL (zupL L 0 10 0) 0 11 1
set_option maxRecDepth 100000 in
theorem kX11_init {d : Nat} {I : Nat → Nat → Int32} {L : Nat → Nat → Int64} (hI : ∀ i, 1 ≤ i → ∀ k, I i k = 0) (hL : ∀ i, 1 ≤ i → ∀ k, L i k = 0) : zCall (d + 5) mX11_init [.ref 0] (zk 1 I L (zFk 0 0 (zF 1))) (none, zk 56 (zlay I 1 6 5) (zupL (zupL L 0 10 0) 0 11 1) (zF 1)) := by
  refine zCall.of okX11_init (Nat.le_of_ble_eq_true rfl) ⟨Nat.le_of_ble_eq_true rfl, Nat.le_of_ble_eq_true rfl⟩ (fun G => ?_)
  show zA G (d + 5) mX11_init 0 [some (.ref 0)] [] (zk 1 I L (zFk 0 0 (zF 1))) (none, zk 56 (zlay I 1 6 5) (zupL (zupL L 0 10 0) 0 11 1) (zF 1))
  refine zi_aload_n dX11_init_0 rfl rfl ?_
  refine zi_objInit dX11_init_1 u_27 u_28 zu_obj (Nat.le_of_ble_eq_true rfl) ?_
  refine zi_aload_n dX11_init_4 rfl rfl ?_
  refine zn_new (n := 1) dX11_init_5 zc4 u_30 u_31 u_2 rfl (by decide) rfl (hI 1 (by decide)) (hL 1 (by decide)) ⟨Nat.le_of_ble_eq_true rfl, Nat.le_of_ble_eq_true rfl⟩ ?_
  show zA G _ mX11_init 8 _ _ (zk 2 I L (zFk 1 0 (zFk 0 0 (zF 1)))) _
  refine zi_dup dX11_init_8 rfl ?_
  refine zi_callIN (h := zk 2 I L (zFk 1 0 (zFk 0 0 (zF 1)))) (N := mX4_init) (i := 1) (av := []) (st := [.ref 1, .ref 0]) (R1 := (none, zk 10 I L (zFk 0 0 (zF 1)))) dX11_init_9 okX4_init (by decide) u_33 rfl rfl arX4_init (Nat.le_of_ble_eq_true rfl) rfl (Nat.le_of_ble_eq_true rfl) (kX4_init_1 (fun i h k => hI i (Nat.le_trans (by decide) h) k) (fun i h k => hL i (Nat.le_trans (by decide) h) k) (fun k => by rw [zFk_ne (by decide)])) ⟨Nat.le_of_ble_eq_true rfl, Nat.le_of_ble_eq_true rfl⟩ ?_
  show zA G _ mX11_init 12 _ [.ref 1, .ref 0] (zk 10 I L (zFk 0 0 (zF 1))) _
  refine zn_put (i := 0) (k := 0) (j := 1) dX11_init_12 zc11 rfl (Nat.le_of_ble_eq_true rfl) (Nat.le_of_ble_eq_true rfl) u_244 (Or.inl rfl) rfl (rfl) ?_
  show zA G _ mX11_init 15 _ _ (zk 10 I L (zFk 0 1 (zF 1))) _
  refine zi_aload_n dX11_init_15 rfl rfl ?_
  refine zn_new (n := 10) dX11_init_16 zc4 u_30 u_31 u_2 rfl (by decide) rfl (hI 10 (by decide)) (hL 10 (by decide)) ⟨Nat.le_of_ble_eq_true rfl, Nat.le_of_ble_eq_true rfl⟩ ?_
  show zA G _ mX11_init 19 _ _ (zk 11 I L (zFk 10 0 (zFk 0 1 (zF 1)))) _
  refine zi_dup dX11_init_19 rfl ?_
  refine zi_callIN (h := zk 11 I L (zFk 10 0 (zFk 0 1 (zF 1)))) (N := mX4_init) (i := 10) (av := []) (st := [.ref 10, .ref 0]) (R1 := (none, zk 19 I L (zFk 0 1 (zF 1)))) dX11_init_20 okX4_init (by decide) u_33 rfl rfl arX4_init (Nat.le_of_ble_eq_true rfl) rfl (Nat.le_of_ble_eq_true rfl) (kX4_init_10 (fun i h k => hI i (Nat.le_trans (by decide) h) k) (fun i h k => hL i (Nat.le_trans (by decide) h) k) (fun k => by rw [zFk_ne (by decide)])) ⟨Nat.le_of_ble_eq_true rfl, Nat.le_of_ble_eq_true rfl⟩ ?_
  show zA G _ mX11_init 23 _ [.ref 10, .ref 0] (zk 19 I L (zFk 0 1 (zF 1))) _
  refine zn_put (i := 0) (k := 1) (j := 10) dX11_init_23 zc11 rfl (Nat.le_of_ble_eq_true rfl) (Nat.le_of_ble_eq_true rfl) u_245 (Or.inl rfl) rfl (rfl) ?_
  show zA G _ mX11_init 26 _ _ (zk 19 I L (zFk 0 2 (zF 1))) _
  refine zi_aload_n dX11_init_26 rfl rfl ?_
  refine zn_new (n := 19) dX11_init_27 zc4 u_30 u_31 u_2 rfl (by decide) rfl (hI 19 (by decide)) (hL 19 (by decide)) ⟨Nat.le_of_ble_eq_true rfl, Nat.le_of_ble_eq_true rfl⟩ ?_
  show zA G _ mX11_init 30 _ _ (zk 20 I L (zFk 19 0 (zFk 0 2 (zF 1)))) _
  refine zi_dup dX11_init_30 rfl ?_
  refine zi_callIN (h := zk 20 I L (zFk 19 0 (zFk 0 2 (zF 1)))) (N := mX4_init) (i := 19) (av := []) (st := [.ref 19, .ref 0]) (R1 := (none, zk 28 I L (zFk 0 2 (zF 1)))) dX11_init_31 okX4_init (by decide) u_33 rfl rfl arX4_init (Nat.le_of_ble_eq_true rfl) rfl (Nat.le_of_ble_eq_true rfl) (kX4_init_19 (fun i h k => hI i (Nat.le_trans (by decide) h) k) (fun i h k => hL i (Nat.le_trans (by decide) h) k) (fun k => by rw [zFk_ne (by decide)])) ⟨Nat.le_of_ble_eq_true rfl, Nat.le_of_ble_eq_true rfl⟩ ?_
  show zA G _ mX11_init 34 _ [.ref 19, .ref 0] (zk 28 I L (zFk 0 2 (zF 1))) _
  refine zn_put (i := 0) (k := 2) (j := 19) dX11_init_34 zc11 rfl (Nat.le_of_ble_eq_true rfl) (Nat.le_of_ble_eq_true rfl) u_246 (Or.inr ⟨rfl, rfl, rfl⟩) rfl (rfl) ?_
  show zA G _ mX11_init 37 _ _ (zk 28 I L (zFk 0 3 (zF 1))) _
  refine zi_aload_n dX11_init_37 rfl rfl ?_
  refine zn_new (n := 28) dX11_init_38 zc4 u_30 u_31 u_2 rfl (by decide) rfl (hI 28 (by decide)) (hL 28 (by decide)) ⟨Nat.le_of_ble_eq_true rfl, Nat.le_of_ble_eq_true rfl⟩ ?_
  show zA G _ mX11_init 41 _ _ (zk 29 I L (zFk 28 0 (zFk 0 3 (zF 1)))) _
  refine zi_dup dX11_init_41 rfl ?_
  refine zi_callIN (h := zk 29 I L (zFk 28 0 (zFk 0 3 (zF 1)))) (N := mX4_init) (i := 28) (av := []) (st := [.ref 28, .ref 0]) (R1 := (none, zk 37 I L (zFk 0 3 (zF 1)))) dX11_init_42 okX4_init (by decide) u_33 rfl rfl arX4_init (Nat.le_of_ble_eq_true rfl) rfl (Nat.le_of_ble_eq_true rfl) (kX4_init_28 (fun i h k => hI i (Nat.le_trans (by decide) h) k) (fun i h k => hL i (Nat.le_trans (by decide) h) k) (fun k => by rw [zFk_ne (by decide)])) ⟨Nat.le_of_ble_eq_true rfl, Nat.le_of_ble_eq_true rfl⟩ ?_
  show zA G _ mX11_init 45 _ [.ref 28, .ref 0] (zk 37 I L (zFk 0 3 (zF 1))) _
  refine zn_put (i := 0) (k := 3) (j := 28) dX11_init_45 zc11 rfl (Nat.le_of_ble_eq_true rfl) (Nat.le_of_ble_eq_true rfl) u_247 (Or.inr ⟨rfl, rfl, rfl⟩) rfl (rfl) ?_
  show zA G _ mX11_init 48 _ _ (zk 37 I L (zFk 0 4 (zF 1))) _
  refine zi_aload_n dX11_init_48 rfl rfl ?_
  refine zn_new (n := 37) dX11_init_49 zc5 u_108 u_109 u_3 rfl (by decide) rfl (hI 37 (by decide)) (hL 37 (by decide)) ⟨Nat.le_of_ble_eq_true rfl, Nat.le_of_ble_eq_true rfl⟩ ?_
  show zA G _ mX11_init 52 _ _ (zk 38 I L (zFk 37 0 (zFk 0 4 (zF 1)))) _
  refine zi_dup dX11_init_52 rfl ?_
  refine zi_callIN (h := zk 38 I L (zFk 37 0 (zFk 0 4 (zF 1)))) (N := mX5_init) (i := 37) (av := []) (st := [.ref 37, .ref 0]) (R1 := (none, zk 43 I L (zFk 0 4 (zF 1)))) dX11_init_53 okX5_init (by decide) u_111 rfl rfl arX5_init (Nat.le_of_ble_eq_true rfl) rfl (Nat.le_of_ble_eq_true rfl) (kX5_init (fun i h k => hI i (Nat.le_trans (by decide) h) k) (fun i h k => hL i (Nat.le_trans (by decide) h) k) (fun k => by rw [zFk_ne (by decide)])) ⟨Nat.le_of_ble_eq_true rfl, Nat.le_of_ble_eq_true rfl⟩ ?_
  show zA G _ mX11_init 56 _ [.ref 37, .ref 0] (zk 43 I L (zFk 0 4 (zF 1))) _
  refine zn_put (i := 0) (k := 4) (j := 37) dX11_init_56 zc11 rfl (Nat.le_of_ble_eq_true rfl) (Nat.le_of_ble_eq_true rfl) u_248 (Or.inr ⟨rfl, rfl, rfl⟩) rfl (rfl) ?_
  show zA G _ mX11_init 59 _ _ (zk 43 I L (zFk 0 5 (zF 1))) _
  refine zi_aload_n dX11_init_59 rfl rfl ?_
  refine zn_new (n := 43) dX11_init_60 zc10 u_166 u_167 u_9 rfl (by decide) rfl (hI 43 (by decide)) (hL 43 (by decide)) ⟨Nat.le_of_ble_eq_true rfl, Nat.le_of_ble_eq_true rfl⟩ ?_
  show zA G _ mX11_init 63 _ _ (zk 44 I L (zFk 43 0 (zFk 0 5 (zF 1)))) _
  refine zi_dup dX11_init_63 rfl ?_
  refine zi_callIN (h := zk 44 I L (zFk 43 0 (zFk 0 5 (zF 1)))) (N := mX10_init) (i := 43) (av := []) (st := [.ref 43, .ref 0]) (R1 := (none, zk 48 I L (zFk 0 5 (zF 1)))) dX11_init_64 okX10_init (by decide) u_169 rfl rfl arX10_init (Nat.le_of_ble_eq_true rfl) rfl (Nat.le_of_ble_eq_true rfl) (kX10_init (fun i h k => hI i (Nat.le_trans (by decide) h) k) (fun i h k => hL i (Nat.le_trans (by decide) h) k) (fun k => by rw [zFk_ne (by decide)])) ⟨Nat.le_of_ble_eq_true rfl, Nat.le_of_ble_eq_true rfl⟩ ?_
  show zA G _ mX11_init 67 _ [.ref 43, .ref 0] (zk 48 I L (zFk 0 5 (zF 1))) _
  refine zn_put (i := 0) (k := 5) (j := 43) dX11_init_67 zc11 rfl (Nat.le_of_ble_eq_true rfl) (Nat.le_of_ble_eq_true rfl) u_249 (Or.inr ⟨rfl, rfl, rfl⟩) rfl (rfl) ?_
  show zA G _ mX11_init 70 _ _ (zk 48 I L (zFk 0 6 (zF 1))) _
  refine zi_aload_n dX11_init_70 rfl rfl ?_
  refine zn_new (n := 48) dX11_init_71 zc3 u_189 u_190 u_10 rfl (by decide) rfl (hI 48 (by decide)) (hL 48 (by decide)) ⟨Nat.le_of_ble_eq_true rfl, Nat.le_of_ble_eq_true rfl⟩ ?_
  show zA G _ mX11_init 74 _ _ (zk 49 I L (zFk 48 0 (zFk 0 6 (zF 1)))) _
  refine zi_dup dX11_init_74 rfl ?_
  refine zi_callIN (h := zk 49 I L (zFk 48 0 (zFk 0 6 (zF 1)))) (N := mX3_init) (i := 48) (av := []) (st := [.ref 48, .ref 0]) (R1 := (none, zk 50 I L (zFk 0 6 (zF 1)))) dX11_init_75 okX3_init (by decide) u_192 rfl rfl arX3_init (Nat.le_of_ble_eq_true rfl) rfl (Nat.le_of_ble_eq_true rfl) (kX3_init (fun i h k => hI i (Nat.le_trans (by decide) h) k) (fun i h k => hL i (Nat.le_trans (by decide) h) k) (fun k => by rw [zFk_ne (by decide)])) ⟨Nat.le_of_ble_eq_true rfl, Nat.le_of_ble_eq_true rfl⟩ ?_
  show zA G _ mX11_init 78 _ [.ref 48, .ref 0] (zk 50 I L (zFk 0 6 (zF 1))) _
  refine zn_put (i := 0) (k := 6) (j := 48) dX11_init_78 zc11 rfl (Nat.le_of_ble_eq_true rfl) (Nat.le_of_ble_eq_true rfl) u_250 (Or.inr ⟨rfl, rfl, rfl⟩) rfl (rfl) ?_
  show zA G _ mX11_init 81 _ _ (zk 50 I L (zFk 0 7 (zF 1))) _
  refine zi_aload_n dX11_init_81 rfl rfl ?_
  refine zn_new (n := 50) dX11_init_82 zc1 u_199 u_200 u_11 rfl (by decide) rfl (hI 50 (by decide)) (hL 50 (by decide)) ⟨Nat.le_of_ble_eq_true rfl, Nat.le_of_ble_eq_true rfl⟩ ?_
  show zA G _ mX11_init 85 _ _ (zk 51 I L (zFk 50 0 (zFk 0 7 (zF 1)))) _
  refine zi_dup dX11_init_85 rfl ?_
  refine zi_callIN (h := zk 51 I L (zFk 50 0 (zFk 0 7 (zF 1)))) (N := mX1_init) (i := 50) (av := []) (st := [.ref 50, .ref 0]) (R1 := (none, zk 53 I L (zFk 0 7 (zF 1)))) dX11_init_86 okX1_init (by decide) u_202 rfl rfl arX1_init (Nat.le_of_ble_eq_true rfl) rfl (Nat.le_of_ble_eq_true rfl) (kX1_init (fun i h k => hI i (Nat.le_trans (by decide) h) k) (fun i h k => hL i (Nat.le_trans (by decide) h) k) (fun k => by rw [zFk_ne (by decide)])) ⟨Nat.le_of_ble_eq_true rfl, Nat.le_of_ble_eq_true rfl⟩ ?_
  show zA G _ mX11_init 89 _ [.ref 50, .ref 0] (zk 53 I L (zFk 0 7 (zF 1))) _
  refine zn_put (i := 0) (k := 7) (j := 50) dX11_init_89 zc11 rfl (Nat.le_of_ble_eq_true rfl) (Nat.le_of_ble_eq_true rfl) u_251 (Or.inr ⟨rfl, rfl, rfl⟩) rfl (rfl) ?_
  show zA G _ mX11_init 92 _ _ (zk 53 I L (zFk 0 8 (zF 1))) _
  refine zi_aload_n dX11_init_92 rfl rfl ?_
  refine zn_new (n := 53) dX11_init_93 zc7 u_213 u_214 u_12 rfl (by decide) rfl (hI 53 (by decide)) (hL 53 (by decide)) ⟨Nat.le_of_ble_eq_true rfl, Nat.le_of_ble_eq_true rfl⟩ ?_
  show zA G _ mX11_init 96 _ _ (zk 54 I L (zFk 53 0 (zFk 0 8 (zF 1)))) _
  refine zi_dup dX11_init_96 rfl ?_
  refine zi_callIN (h := zk 54 I L (zFk 53 0 (zFk 0 8 (zF 1)))) (N := mX7_init) (i := 53) (av := []) (st := [.ref 53, .ref 0]) (R1 := (none, zk 55 I L (zFk 0 8 (zF 1)))) dX11_init_97 okX7_init (by decide) u_216 rfl rfl arX7_init (Nat.le_of_ble_eq_true rfl) rfl (Nat.le_of_ble_eq_true rfl) (kX7_init (fun i h k => hI i (Nat.le_trans (by decide) h) k) (fun i h k => hL i (Nat.le_trans (by decide) h) k) (fun k => by rw [zFk_ne (by decide)])) ⟨Nat.le_of_ble_eq_true rfl, Nat.le_of_ble_eq_true rfl⟩ ?_
  show zA G _ mX11_init 100 _ [.ref 53, .ref 0] (zk 55 I L (zFk 0 8 (zF 1))) _
  refine zn_put (i := 0) (k := 8) (j := 53) dX11_init_100 zc11 rfl (Nat.le_of_ble_eq_true rfl) (Nat.le_of_ble_eq_true rfl) u_252 (Or.inr ⟨rfl, rfl, rfl⟩) rfl (rfl) ?_
  show zA G _ mX11_init 103 _ _ (zk 55 I L (zFk 0 9 (zF 1))) _
  refine zi_aload_n dX11_init_103 rfl rfl ?_
  refine zi_iconst (v := 3) dX11_init_104 (by decide) ?_
  refine zn_arr (n := 55) (N := 3) (c := 100) (ty := .int) dX11_init_105 rfl (Or.inl ⟨rfl, rfl⟩) u_107 (by decide) (by decide) (by decide) rfl (by decide) rfl (hI 55 (by decide)) ⟨Nat.le_of_ble_eq_true rfl, Nat.le_of_ble_eq_true rfl⟩ ?_
  show zA G _ mX11_init 107 _ _ (zk 56 I L (zFk 0 9 (zF 1))) _
  refine zn_put (i := 0) (k := 9) (j := 55) dX11_init_107 zc11 rfl (Nat.le_of_ble_eq_true rfl) (Nat.le_of_ble_eq_true rfl) u_253 (Or.inr ⟨rfl, rfl, rfl⟩) rfl (rfl) ?_
  show zA G _ mX11_init 110 _ _ (zk 56 I L (zFk 0 10 (zF 1))) _
  refine zn_end (i := 0) (by decide) rfl (by decide) ?_
  refine zi_aload_n dX11_init_110 rfl rfl ?_
  refine zi_lconst (v := 0) dX11_init_111 (by decide) ?_
  refine zi_putL (h := zk 56 I L (zF 1)) (k := 10) dX11_init_112 zc11 rfl (Nat.le_of_ble_eq_true rfl) (Nat.le_of_ble_eq_true rfl) u_254 rfl rfl ?_
  show zA G _ mX11_init 115 _ _ (zk 56 I (zupL L 0 10 0) (zF 1)) _
  refine zi_aload_n dX11_init_115 rfl rfl ?_
  refine zi_lconst (v := 1) dX11_init_116 (by decide) ?_
  refine zi_putL (h := zk 56 I (zupL L 0 10 0) (zF 1)) (k := 11) dX11_init_117 zc11 rfl (Nat.le_of_ble_eq_true rfl) (Nat.le_of_ble_eq_true rfl) u_255 rfl rfl ?_
  show zA G _ mX11_init 120 _ _ (zk 56 I (zupL (zupL L 0 10 0) 0 11 1) (zF 1)) _
  refine zi_aload_n dX11_init_120 rfl rfl ?_
  refine zi_get (h := zk 56 I (zupL (zupL L 0 10 0) 0 11 1) (zF 1)) (k := 0) (v := .ref 1) dX11_init_121 zc11 rfl (Nat.le_of_ble_eq_true rfl) (Nat.le_of_ble_eq_true rfl) u_244 rfl ?_
  refine zi_bipush (v := 6) dX11_init_124 (by decide) ?_
  refine zi_iconst (v := 5) dX11_init_126 (by decide) ?_
  refine zi_callV (h := zk 56 I (zupL (zupL L 0 10 0) 0 11 1) (zF 1)) (N := mX4_layOut) (i := 1) (av := [.int 6, .int 5]) (st := []) (R1 := (none, zk 56 (zlay I 1 6 5) (zupL (zupL L 0 10 0) 0 11 1) (zF 1))) dX11_init_127 okX4_layOut u_237 u_238 u_239 zc4 rfl (Nat.le_of_ble_eq_true rfl) arX4_layOut rfl (Nat.le_of_ble_eq_true rfl) (klayN (by decide) rfl rfl 6 5) ⟨Nat.le_of_ble_eq_true rfl, Nat.le_of_ble_eq_true rfl⟩ ?_
  show zA G _ mX11_init 130 _ _ (zk 56 (zlay I 1 6 5) (zupL (zupL L 0 10 0) 0 11 1) (zF 1)) _
  exact zi_return dX11_init_130 rfl
theorem zsl74 : zslN 74 = zsl := by decide +kernel
theorem zk74 {I : Nat → Nat → Int32} {L : Nat → Nat → Int64} {b : Nat} : zk 74 I L (zF b) = zh b I L := by
  show ((74, zslN 74, zsh), I, L, zF b) = ((74, zsl, zsh), I, L, zF b)
  rw [zsl74]
set_option maxRecDepth 100000 in
theorem kX12_init {d : Nat} {I : Nat → Nat → Int32} {L : Nat → Nat → Int64} (hI : ∀ i, 57 ≤ i → ∀ k, I i k = 0) (hL : ∀ i, 57 ≤ i → ∀ k, L i k = 0) : zCall (d + 2) mX12_init [.ref 56] (zk 57 I L (zFk 56 0 (zF 1))) (none, zh 1 (zcln I 57 (fun k => nI (wcl 6 5 k)) 463) (zupL L 56 7 1)) := by
  refine zCall.of okX12_init (Nat.le_of_ble_eq_true rfl) ⟨Nat.le_of_ble_eq_true rfl, Nat.le_of_ble_eq_true rfl⟩ (fun G => ?_)
  show zA G (d + 2) mX12_init 0 [some (.ref 56)] [] (zk 57 I L (zFk 56 0 (zF 1))) (none, zh 1 (zcln I 57 (fun k => nI (wcl 6 5 k)) 463) (zupL L 56 7 1))
  refine zi_aload_n dX12_init_0 rfl rfl ?_
  refine zi_objInit dX12_init_1 u_797 u_28 zu_obj (Nat.le_of_ble_eq_true rfl) ?_
  refine zi_aload_n dX12_init_4 rfl rfl ?_
  refine zi_sipush (v := 463) dX12_init_5 (by decide) ?_
  refine zn_arr (n := 57) (N := 463) (c := 100) (ty := .int) dX12_init_8 rfl (Or.inl ⟨rfl, rfl⟩) u_107 (by decide) (by decide) (by decide) rfl (by decide) rfl (hI 57 (by decide)) ⟨Nat.le_of_ble_eq_true rfl, Nat.le_of_ble_eq_true rfl⟩ ?_
  show zA G _ mX12_init 10 _ _ (zk 58 I L (zFk 56 0 (zF 1))) _
  refine zn_put (i := 56) (k := 0) (j := 57) dX12_init_10 zc12 rfl (Nat.le_of_ble_eq_true rfl) (Nat.le_of_ble_eq_true rfl) u_806 (Or.inr ⟨rfl, rfl, rfl⟩) rfl (rfl) ?_
  show zA G _ mX12_init 13 _ _ (zk 58 I L (zFk 56 1 (zF 1))) _
  refine zi_aload_n dX12_init_13 rfl rfl ?_
  refine zi_sipush (v := 463) dX12_init_14 (by decide) ?_
  refine zn_arr (n := 58) (N := 463) (c := 100) (ty := .int) dX12_init_17 rfl (Or.inl ⟨rfl, rfl⟩) u_107 (by decide) (by decide) (by decide) rfl (by decide) rfl (hI 58 (by decide)) ⟨Nat.le_of_ble_eq_true rfl, Nat.le_of_ble_eq_true rfl⟩ ?_
  show zA G _ mX12_init 19 _ _ (zk 59 I L (zFk 56 1 (zF 1))) _
  refine zn_put (i := 56) (k := 1) (j := 58) dX12_init_19 zc12 rfl (Nat.le_of_ble_eq_true rfl) (Nat.le_of_ble_eq_true rfl) u_807 (Or.inr ⟨rfl, rfl, rfl⟩) rfl (rfl) ?_
  show zA G _ mX12_init 22 _ _ (zk 59 I L (zFk 56 2 (zF 1))) _
  refine zi_aload_n dX12_init_22 rfl rfl ?_
  refine zi_sipush (v := 926) dX12_init_23 (by decide) ?_
  refine zn_arr (n := 59) (N := 926) (c := 100) (ty := .int) dX12_init_26 rfl (Or.inl ⟨rfl, rfl⟩) u_107 (by decide) (by decide) (by decide) rfl (by decide) rfl (hI 59 (by decide)) ⟨Nat.le_of_ble_eq_true rfl, Nat.le_of_ble_eq_true rfl⟩ ?_
  show zA G _ mX12_init 28 _ _ (zk 60 I L (zFk 56 2 (zF 1))) _
  refine zn_put (i := 56) (k := 2) (j := 59) dX12_init_28 zc12 rfl (Nat.le_of_ble_eq_true rfl) (Nat.le_of_ble_eq_true rfl) u_808 (Or.inr ⟨rfl, rfl, rfl⟩) rfl (rfl) ?_
  show zA G _ mX12_init 31 _ _ (zk 60 I L (zFk 56 3 (zF 1))) _
  refine zi_aload_n dX12_init_31 rfl rfl ?_
  refine zi_iconst (v := 2) dX12_init_32 (by decide) ?_
  refine zn_arr (n := 60) (N := 2) (c := 101) (ty := .boolean) dX12_init_33 rfl (Or.inr ⟨rfl, rfl⟩) u_879 (by decide) (by decide) (by decide) rfl (by decide) rfl (hI 60 (by decide)) ⟨Nat.le_of_ble_eq_true rfl, Nat.le_of_ble_eq_true rfl⟩ ?_
  show zA G _ mX12_init 35 _ _ (zk 61 I L (zFk 56 3 (zF 1))) _
  refine zn_put (i := 56) (k := 3) (j := 60) dX12_init_35 zc12 rfl (Nat.le_of_ble_eq_true rfl) (Nat.le_of_ble_eq_true rfl) u_809 (Or.inr ⟨rfl, rfl, rfl⟩) rfl (rfl) ?_
  show zA G _ mX12_init 38 _ _ (zk 61 I L (zFk 56 4 (zF 1))) _
  refine zi_aload_n dX12_init_38 rfl rfl ?_
  refine zi_sipush (v := 250) dX12_init_39 (by decide) ?_
  refine zn_arr (n := 61) (N := 250) (c := 100) (ty := .int) dX12_init_42 rfl (Or.inl ⟨rfl, rfl⟩) u_107 (by decide) (by decide) (by decide) rfl (by decide) rfl (hI 61 (by decide)) ⟨Nat.le_of_ble_eq_true rfl, Nat.le_of_ble_eq_true rfl⟩ ?_
  show zA G _ mX12_init 44 _ _ (zk 62 I L (zFk 56 4 (zF 1))) _
  refine zn_put (i := 56) (k := 4) (j := 61) dX12_init_44 zc12 rfl (Nat.le_of_ble_eq_true rfl) (Nat.le_of_ble_eq_true rfl) u_810 (Or.inr ⟨rfl, rfl, rfl⟩) rfl (rfl) ?_
  show zA G _ mX12_init 47 _ _ (zk 62 I L (zFk 56 5 (zF 1))) _
  refine zi_aload_n dX12_init_47 rfl rfl ?_
  refine zi_lconst (v := 1) dX12_init_48 (by decide) ?_
  refine zi_putL (h := zk 62 I L (zFk 56 5 (zF 1))) (k := 7) dX12_init_49 zc12 rfl (Nat.le_of_ble_eq_true rfl) (Nat.le_of_ble_eq_true rfl) u_813 rfl rfl ?_
  show zA G _ mX12_init 52 _ _ (zk 62 I (zupL L 56 7 1) (zFk 56 5 (zF 1))) _
  refine zi_aload_n dX12_init_52 rfl rfl ?_
  refine zi_iconst (v := 3) dX12_init_53 (by decide) ?_
  refine zn_arr (n := 62) (N := 3) (c := 100) (ty := .int) dX12_init_54 rfl (Or.inl ⟨rfl, rfl⟩) u_107 (by decide) (by decide) (by decide) rfl (by decide) rfl (hI 62 (by decide)) ⟨Nat.le_of_ble_eq_true rfl, Nat.le_of_ble_eq_true rfl⟩ ?_
  show zA G _ mX12_init 56 _ _ (zk 63 I (zupL L 56 7 1) (zFk 56 5 (zF 1))) _
  refine zn_skip (i := 56) 8 (by decide) rfl (by decide) (by decide) ?_
  refine zn_put (i := 56) (k := 8) (j := 62) dX12_init_56 zc12 rfl (Nat.le_of_ble_eq_true rfl) (Nat.le_of_ble_eq_true rfl) u_814 (Or.inr ⟨rfl, rfl, rfl⟩) rfl (rfl) ?_
  show zA G _ mX12_init 59 _ _ (zk 63 I (zupL L 56 7 1) (zFk 56 9 (zF 1))) _
  refine zi_aload_n dX12_init_59 rfl rfl ?_
  refine zi_bipush (v := 9) dX12_init_60 (by decide) ?_
  refine zn_arr (n := 63) (N := 9) (c := 100) (ty := .int) dX12_init_62 rfl (Or.inl ⟨rfl, rfl⟩) u_107 (by decide) (by decide) (by decide) rfl (by decide) rfl (hI 63 (by decide)) ⟨Nat.le_of_ble_eq_true rfl, Nat.le_of_ble_eq_true rfl⟩ ?_
  show zA G _ mX12_init 64 _ _ (zk 64 I (zupL L 56 7 1) (zFk 56 9 (zF 1))) _
  refine zn_skip (i := 56) 13 (by decide) rfl (by decide) (by decide) ?_
  refine zn_put (i := 56) (k := 13) (j := 63) dX12_init_64 zc12 rfl (Nat.le_of_ble_eq_true rfl) (Nat.le_of_ble_eq_true rfl) u_819 (Or.inr ⟨rfl, rfl, rfl⟩) rfl (rfl) ?_
  show zA G _ mX12_init 67 _ _ (zk 64 I (zupL L 56 7 1) (zFk 56 14 (zF 1))) _
  refine zi_aload_n dX12_init_67 rfl rfl ?_
  refine zi_bipush (v := 8) dX12_init_68 (by decide) ?_
  refine zn_arr (n := 64) (N := 8) (c := 100) (ty := .int) dX12_init_70 rfl (Or.inl ⟨rfl, rfl⟩) u_107 (by decide) (by decide) (by decide) rfl (by decide) rfl (hI 64 (by decide)) ⟨Nat.le_of_ble_eq_true rfl, Nat.le_of_ble_eq_true rfl⟩ ?_
  show zA G _ mX12_init 72 _ _ (zk 65 I (zupL L 56 7 1) (zFk 56 14 (zF 1))) _
  refine zn_put (i := 56) (k := 14) (j := 64) dX12_init_72 zc12 rfl (Nat.le_of_ble_eq_true rfl) (Nat.le_of_ble_eq_true rfl) u_820 (Or.inr ⟨rfl, rfl, rfl⟩) rfl (rfl) ?_
  show zA G _ mX12_init 75 _ _ (zk 65 I (zupL L 56 7 1) (zFk 56 15 (zF 1))) _
  refine zi_aload_n dX12_init_75 rfl rfl ?_
  refine zi_bipush (v := 9) dX12_init_76 (by decide) ?_
  refine zn_arr (n := 65) (N := 9) (c := 100) (ty := .int) dX12_init_78 rfl (Or.inl ⟨rfl, rfl⟩) u_107 (by decide) (by decide) (by decide) rfl (by decide) rfl (hI 65 (by decide)) ⟨Nat.le_of_ble_eq_true rfl, Nat.le_of_ble_eq_true rfl⟩ ?_
  show zA G _ mX12_init 80 _ _ (zk 66 I (zupL L 56 7 1) (zFk 56 15 (zF 1))) _
  refine zn_put (i := 56) (k := 15) (j := 65) dX12_init_80 zc12 rfl (Nat.le_of_ble_eq_true rfl) (Nat.le_of_ble_eq_true rfl) u_821 (Or.inr ⟨rfl, rfl, rfl⟩) rfl (rfl) ?_
  show zA G _ mX12_init 83 _ _ (zk 66 I (zupL L 56 7 1) (zFk 56 16 (zF 1))) _
  refine zi_aload_n dX12_init_83 rfl rfl ?_
  refine zi_bipush (v := 8) dX12_init_84 (by decide) ?_
  refine zn_arr (n := 66) (N := 8) (c := 100) (ty := .int) dX12_init_86 rfl (Or.inl ⟨rfl, rfl⟩) u_107 (by decide) (by decide) (by decide) rfl (by decide) rfl (hI 66 (by decide)) ⟨Nat.le_of_ble_eq_true rfl, Nat.le_of_ble_eq_true rfl⟩ ?_
  show zA G _ mX12_init 88 _ _ (zk 67 I (zupL L 56 7 1) (zFk 56 16 (zF 1))) _
  refine zn_put (i := 56) (k := 16) (j := 66) dX12_init_88 zc12 rfl (Nat.le_of_ble_eq_true rfl) (Nat.le_of_ble_eq_true rfl) u_822 (Or.inr ⟨rfl, rfl, rfl⟩) rfl (rfl) ?_
  show zA G _ mX12_init 91 _ _ (zk 67 I (zupL L 56 7 1) (zFk 56 17 (zF 1))) _
  refine zi_aload_n dX12_init_91 rfl rfl ?_
  refine zi_bipush (v := 9) dX12_init_92 (by decide) ?_
  refine zn_arr (n := 67) (N := 9) (c := 100) (ty := .int) dX12_init_94 rfl (Or.inl ⟨rfl, rfl⟩) u_107 (by decide) (by decide) (by decide) rfl (by decide) rfl (hI 67 (by decide)) ⟨Nat.le_of_ble_eq_true rfl, Nat.le_of_ble_eq_true rfl⟩ ?_
  show zA G _ mX12_init 96 _ _ (zk 68 I (zupL L 56 7 1) (zFk 56 17 (zF 1))) _
  refine zn_put (i := 56) (k := 17) (j := 67) dX12_init_96 zc12 rfl (Nat.le_of_ble_eq_true rfl) (Nat.le_of_ble_eq_true rfl) u_823 (Or.inr ⟨rfl, rfl, rfl⟩) rfl (rfl) ?_
  show zA G _ mX12_init 99 _ _ (zk 68 I (zupL L 56 7 1) (zFk 56 18 (zF 1))) _
  refine zi_aload_n dX12_init_99 rfl rfl ?_
  refine zi_bipush (v := 9) dX12_init_100 (by decide) ?_
  refine zn_arr (n := 68) (N := 9) (c := 100) (ty := .int) dX12_init_102 rfl (Or.inl ⟨rfl, rfl⟩) u_107 (by decide) (by decide) (by decide) rfl (by decide) rfl (hI 68 (by decide)) ⟨Nat.le_of_ble_eq_true rfl, Nat.le_of_ble_eq_true rfl⟩ ?_
  show zA G _ mX12_init 104 _ _ (zk 69 I (zupL L 56 7 1) (zFk 56 18 (zF 1))) _
  refine zn_put (i := 56) (k := 18) (j := 68) dX12_init_104 zc12 rfl (Nat.le_of_ble_eq_true rfl) (Nat.le_of_ble_eq_true rfl) u_824 (Or.inr ⟨rfl, rfl, rfl⟩) rfl (rfl) ?_
  show zA G _ mX12_init 107 _ _ (zk 69 I (zupL L 56 7 1) (zFk 56 19 (zF 1))) _
  refine zi_aload_n dX12_init_107 rfl rfl ?_
  refine zi_bipush (v := 6) dX12_init_108 (by decide) ?_
  refine zn_arr (n := 69) (N := 6) (c := 100) (ty := .int) dX12_init_110 rfl (Or.inl ⟨rfl, rfl⟩) u_107 (by decide) (by decide) (by decide) rfl (by decide) rfl (hI 69 (by decide)) ⟨Nat.le_of_ble_eq_true rfl, Nat.le_of_ble_eq_true rfl⟩ ?_
  show zA G _ mX12_init 112 _ _ (zk 70 I (zupL L 56 7 1) (zFk 56 19 (zF 1))) _
  refine zn_put (i := 56) (k := 19) (j := 69) dX12_init_112 zc12 rfl (Nat.le_of_ble_eq_true rfl) (Nat.le_of_ble_eq_true rfl) u_825 (Or.inr ⟨rfl, rfl, rfl⟩) rfl (rfl) ?_
  show zA G _ mX12_init 115 _ _ (zk 70 I (zupL L 56 7 1) (zFk 56 20 (zF 1))) _
  refine zi_aload_n dX12_init_115 rfl rfl ?_
  refine zi_bipush (v := 6) dX12_init_116 (by decide) ?_
  refine zn_arr (n := 70) (N := 6) (c := 100) (ty := .int) dX12_init_118 rfl (Or.inl ⟨rfl, rfl⟩) u_107 (by decide) (by decide) (by decide) rfl (by decide) rfl (hI 70 (by decide)) ⟨Nat.le_of_ble_eq_true rfl, Nat.le_of_ble_eq_true rfl⟩ ?_
  show zA G _ mX12_init 120 _ _ (zk 71 I (zupL L 56 7 1) (zFk 56 20 (zF 1))) _
  refine zn_put (i := 56) (k := 20) (j := 70) dX12_init_120 zc12 rfl (Nat.le_of_ble_eq_true rfl) (Nat.le_of_ble_eq_true rfl) u_826 (Or.inr ⟨rfl, rfl, rfl⟩) rfl (rfl) ?_
  show zA G _ mX12_init 123 _ _ (zk 71 I (zupL L 56 7 1) (zFk 56 21 (zF 1))) _
  refine zi_aload_n dX12_init_123 rfl rfl ?_
  refine zi_bipush (v := 6) dX12_init_124 (by decide) ?_
  refine zn_arr (n := 71) (N := 6) (c := 100) (ty := .int) dX12_init_126 rfl (Or.inl ⟨rfl, rfl⟩) u_107 (by decide) (by decide) (by decide) rfl (by decide) rfl (hI 71 (by decide)) ⟨Nat.le_of_ble_eq_true rfl, Nat.le_of_ble_eq_true rfl⟩ ?_
  show zA G _ mX12_init 128 _ _ (zk 72 I (zupL L 56 7 1) (zFk 56 21 (zF 1))) _
  refine zn_put (i := 56) (k := 21) (j := 71) dX12_init_128 zc12 rfl (Nat.le_of_ble_eq_true rfl) (Nat.le_of_ble_eq_true rfl) u_827 (Or.inr ⟨rfl, rfl, rfl⟩) rfl (rfl) ?_
  show zA G _ mX12_init 131 _ _ (zk 72 I (zupL L 56 7 1) (zFk 56 22 (zF 1))) _
  refine zi_aload_n dX12_init_131 rfl rfl ?_
  refine zi_bipush (v := 48) dX12_init_132 (by decide) ?_
  refine zn_arr (n := 72) (N := 48) (c := 100) (ty := .int) dX12_init_134 rfl (Or.inl ⟨rfl, rfl⟩) u_107 (by decide) (by decide) (by decide) rfl (by decide) rfl (hI 72 (by decide)) ⟨Nat.le_of_ble_eq_true rfl, Nat.le_of_ble_eq_true rfl⟩ ?_
  show zA G _ mX12_init 136 _ _ (zk 73 I (zupL L 56 7 1) (zFk 56 22 (zF 1))) _
  refine zn_put (i := 56) (k := 22) (j := 72) dX12_init_136 zc12 rfl (Nat.le_of_ble_eq_true rfl) (Nat.le_of_ble_eq_true rfl) u_828 (Or.inr ⟨rfl, rfl, rfl⟩) rfl (rfl) ?_
  show zA G _ mX12_init 139 _ _ (zk 73 I (zupL L 56 7 1) (zFk 56 23 (zF 1))) _
  refine zi_aload_n dX12_init_139 rfl rfl ?_
  refine zi_iconst (v := 3) dX12_init_140 (by decide) ?_
  refine zn_arr (n := 73) (N := 3) (c := 100) (ty := .int) dX12_init_141 rfl (Or.inl ⟨rfl, rfl⟩) u_107 (by decide) (by decide) (by decide) rfl (by decide) rfl (hI 73 (by decide)) ⟨Nat.le_of_ble_eq_true rfl, Nat.le_of_ble_eq_true rfl⟩ ?_
  show zA G _ mX12_init 143 _ _ (zk 74 I (zupL L 56 7 1) (zFk 56 23 (zF 1))) _
  refine zn_put (i := 56) (k := 23) (j := 73) dX12_init_143 zc12 rfl (Nat.le_of_ble_eq_true rfl) (Nat.le_of_ble_eq_true rfl) u_829 (Or.inr ⟨rfl, rfl, rfl⟩) rfl (rfl) ?_
  show zA G _ mX12_init 146 _ _ (zk 74 I (zupL L 56 7 1) (zFk 56 24 (zF 1))) _
  refine zn_end (i := 56) (by decide) rfl (by decide) ?_
  refine zi_aload_n dX12_init_146 rfl rfl ?_
  refine zi_get (h := zk 74 I (zupL L 56 7 1) (zF 1)) (k := 0) (v := .ref 57) dX12_init_147 zc12 rfl (Nat.le_of_ble_eq_true rfl) (Nat.le_of_ble_eq_true rfl) u_806 rfl ?_
  refine zi_bipush (v := 6) dX12_init_150 (by decide) ?_
  refine zi_iconst (v := 5) dX12_init_152 (by decide) ?_
  rw [zk74]
  refine zi_callS (h := zh 1 I (zupL L 56 7 1)) (N := mX12_clean) (av := [.ref 57, .int 6, .int 5]) (st := []) (R1 := (none, zh 1 (zcln I 57 (fun k => nI (wcl 6 5 k)) 463) (zupL L 56 7 1))) dX12_init_153 okX12_clean u_798 u_799 arX12_clean rfl (Nat.le_of_ble_eq_true rfl) (kX12_clean rfl (by decide) 6 5) ⟨Nat.le_refl _, Nat.le_refl _⟩ ?_
  exact zi_return dX12_init_156 rfl
