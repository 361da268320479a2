/-! the machine's texts: length, charAt; isWord -/
def zby5 (k i : Nat) : Int32 := (zByt.getD k []).getD i 0
theorem zby5_c : ∀ k, k < 5 → ∀ i, i < zLen.getD k 0 → (((zby5 k i) &&& 255).toUInt32 % 65536).toInt32 = zby5 k i ∧ narrow .char (.int (zby5 k i)) = .int (zby5 k i) := by decide +kernel
theorem zlen_s : ∀ k, k < 5 → nI (zLen.getD k 0) >>> ((0 : Int32) &&& 31) = nI (zLen.getD k 0) := by decide +kernel
theorem zlen_le : ∀ k, k < 5 → zLen.getD k 0 ≤ 6 := by decide +kernel
section TXT
variable {d b : Nat} {I : Nat → Nat → Int32} {L : Nat → Nat → Int64}
theorem kJ0_coder {k : Nat} (hk : k < 5) : zCall d mJ0_coder_7d493 [.ref (1000 + k)] (zh b I L) (some (.int 0), zh b I L) := by
  refine zCall.of okJ0_coder_7d493 (Nat.le_of_ble_eq_true rfl) ⟨Nat.le_refl _, Nat.le_refl _⟩ (fun G => ?_)
  show zA G d mJ0_coder_7d493 0 [some (.ref (1000 + k))] [] (zh b I L) _
  refine zi_getC dJ0_coder_7d493_0 u_391 ?_
  refine zi_if_eq (tgt := 13) dJ0_coder_7d493_3 (by decide) (fun c => absurd c (by decide)) (fun _ => ?_)
  refine zi_aload_n dJ0_coder_7d493_6 rfl rfl ?_
  refine zi_getcoder hk dJ0_coder_7d493_7 u_1187 ?_
  refine zi_goto (tgt := 14) dJ0_coder_7d493_10 (by decide) ?_
  exact zi_ireturn dJ0_coder_7d493_14 rfl (by decide)
theorem kJ0_length {k : Nat} (hk : k < 5) : zCall (d + 1) mJ0_length_8abf5 [.ref (1000 + k)] (zh b I L) (some (.int (nI (zLen.getD k 0))), zh b I L) := by
  refine zCall.of okJ0_length_8abf5 (Nat.le_of_ble_eq_true rfl) ⟨Nat.le_refl _, Nat.le_refl _⟩ (fun G => ?_)
  show zA G (d + 1) mJ0_length_8abf5 0 [some (.ref (1000 + k))] [] (zh b I L) _
  refine zi_aload_n dJ0_length_8abf5_0 rfl rfl ?_
  refine zi_getV hk dJ0_length_8abf5_1 u_1186 ?_
  refine zi_blen hk dJ0_length_8abf5_4 ?_
  refine zi_aload_n dJ0_length_8abf5_5 rfl rfl ?_
  refine zi_callT (N := mJ0_coder_7d493) (av := []) (st := [.int (nI (zLen.getD k 0))]) (R1 := (some (.int 0), zh b I L)) hk dJ0_length_8abf5_6 okJ0_coder_7d493 u_387 u_388 u_389 arJ0_coder_7d493 rfl (Nat.le_of_ble_eq_true rfl) (kJ0_coder hk) ⟨Nat.le_refl _, Nat.le_refl _⟩ ?_
  show zA G (d + 1) mJ0_length_8abf5 9 [some (.ref (1000 + k))] [.int 0, .int (nI (zLen.getD k 0))] (zh b I L) _
  refine zi_ishr dJ0_length_8abf5_9 ?_
  rw [zlen_s k hk]
  exact zi_ireturn dJ0_length_8abf5_10 rfl rfl
theorem kJ0_isLatin1 {k : Nat} (hk : k < 5) : zCall d mJ0_isLatin1_aae02 [.ref (1000 + k)] (zh b I L) (some (.int 1), zh b I L) := by
  refine zCall.of okJ0_isLatin1_aae02 (Nat.le_of_ble_eq_true rfl) ⟨Nat.le_refl _, Nat.le_refl _⟩ (fun G => ?_)
  show zA G d mJ0_isLatin1_aae02 0 [some (.ref (1000 + k))] [] (zh b I L) _
  refine zi_getC dJ0_isLatin1_aae02_0 u_391 ?_
  refine zi_if_eq (tgt := 17) dJ0_isLatin1_aae02_3 (by decide) (fun c => absurd c (by decide)) (fun _ => ?_)
  refine zi_aload_n dJ0_isLatin1_aae02_6 rfl rfl ?_
  refine zi_getcoder hk dJ0_isLatin1_aae02_7 u_1187 ?_
  refine zi_if_ne (tgt := 17) dJ0_isLatin1_aae02_10 (by decide) (fun c => absurd rfl c) (fun _ => ?_)
  refine zi_iconst (v := 1) dJ0_isLatin1_aae02_13 (by decide) ?_
  refine zi_goto (tgt := 18) dJ0_isLatin1_aae02_14 (by decide) ?_
  exact zi_ireturn dJ0_isLatin1_aae02_18 rfl (by decide)
theorem kJ3_checkIndex {i n : Nat} {v : Value} (hv : v.category = 1) (hi : i < n) (hn : n < 2 ^ 31) : zCall d mJ3_checkIndex_8e157 [.int (nI i), .int (nI n), v] (zh b I L) (some (.int (nI i)), zh b I L) := by
  refine zCall.of okJ3_checkIndex_8e157 (by show 1 + (1 + (v.category + 0)) ≤ 3; omega) ⟨Nat.le_refl _, Nat.le_refl _⟩ (fun G => ?_)
  have e : zent [.int (nI i), .int (nI n), v] 3 = [some (.int (nI i)), some (.int (nI n)), some v] := by
    show some (Value.int (nI i)) :: some (Value.int (nI n)) :: (if v.category = 2 then [some v, none] else [some v]) = _
    rw [if_neg (by omega)]
  show zA G d mJ3_checkIndex_8e157 0 (zent [.int (nI i), .int (nI n), v] 3) [] (zh b I L) _
  rw [e]
  refine zi_iload_n dJ3_checkIndex_8e157_0 rfl rfl ?_
  refine zi_if_lt (tgt := 9) dJ3_checkIndex_8e157_1 (by decide) (fun c => absurd c (nIneg (by omega))) (fun _ => ?_)
  refine zi_iload_n dJ3_checkIndex_8e157_4 rfl rfl ?_
  refine zi_iload_n dJ3_checkIndex_8e157_5 rfl rfl ?_
  refine zi_icmp_lt (tgt := 16) dJ3_checkIndex_8e157_6 (by decide) (fun _ => ?_) (fun c => absurd (nI_lt hi hn) c)
  refine zi_iload_n dJ3_checkIndex_8e157_16 rfl rfl ?_
  exact zi_ireturn dJ3_checkIndex_8e157_17 rfl rfl
theorem kJ0_checkIndex {i n : Nat} (hi : i < n) (hn : n < 2 ^ 31) : zCall (d + 1) mJ0_checkIndex_df160 [.int (nI i), .int (nI n)] (zh b I L) (none, zh b I L) := by
  refine zCall.of okJ0_checkIndex_df160 (Nat.le_of_ble_eq_true rfl) ⟨Nat.le_refl _, Nat.le_refl _⟩ (fun G => ?_)
  show zA G (d + 1) mJ0_checkIndex_df160 0 [some (.int (nI i)), some (.int (nI n))] [] (zh b I L) _
  refine zi_iload_n dJ0_checkIndex_df160_0 rfl rfl ?_
  refine zi_iload_n dJ0_checkIndex_df160_1 rfl rfl ?_
  refine zi_getQ dJ0_checkIndex_df160_2 u_407 ?_ ?_
  · refine zi_callS (N := mJ3_checkIndex_8e157) (av := [.int (nI i), .int (nI n), .null]) (st := []) (R1 := (some (.int (nI i)), zh b I L)) dJ0_checkIndex_df160_5 okJ3_checkIndex_8e157 u_409 u_410 arJ3_checkIndex_8e157 rfl (Nat.le_of_ble_eq_true rfl) (kJ3_checkIndex rfl hi hn) ⟨Nat.le_refl _, Nat.le_refl _⟩ ?_
    show zA G (d + 1) mJ0_checkIndex_df160 8 [some (.int (nI i)), some (.int (nI n))] [.int (nI i)] (zh b I L) _
    refine zi_pop dJ0_checkIndex_df160_8 rfl ?_
    exact zi_return dJ0_checkIndex_df160_9 rfl
  · refine zi_callS (N := mJ3_checkIndex_8e157) (av := [.int (nI i), .int (nI n), .ref 3000]) (st := []) (R1 := (some (.int (nI i)), zh b I L)) dJ0_checkIndex_df160_5 okJ3_checkIndex_8e157 u_409 u_410 arJ3_checkIndex_8e157 rfl (Nat.le_of_ble_eq_true rfl) (kJ3_checkIndex rfl hi hn) ⟨Nat.le_refl _, Nat.le_refl _⟩ ?_
    show zA G (d + 1) mJ0_checkIndex_df160 8 [some (.int (nI i)), some (.int (nI n))] [.int (nI i)] (zh b I L) _
    refine zi_pop dJ0_checkIndex_df160_8 rfl ?_
    exact zi_return dJ0_checkIndex_df160_9 rfl
theorem kJ1_charAt {k i : Nat} (hk : k < 5) (hi : i < zLen.getD k 0) : zCall (d + 2) mJ1_charAt_3b067 [.ref (1100 + k), .int (nI i)] (zh b I L) (some (.int (zby5 k i)), zh b I L) := by
  have hl := zlen_le k hk
  obtain ⟨e1, e2⟩ := zby5_c k hk i hi
  refine zCall.of okJ1_charAt_3b067 (Nat.le_of_ble_eq_true rfl) ⟨Nat.le_refl _, Nat.le_refl _⟩ (fun G => ?_)
  show zA G (d + 2) mJ1_charAt_3b067 0 [some (.ref (1100 + k)), some (.int (nI i))] [] (zh b I L) _
  refine zi_iload_n dJ1_charAt_3b067_0 rfl rfl ?_
  refine zi_aload_n dJ1_charAt_3b067_1 rfl rfl ?_
  refine zi_blen hk dJ1_charAt_3b067_2 ?_
  refine zi_callS (N := mJ0_checkIndex_df160) (av := [.int (nI i), .int (nI (zLen.getD k 0))]) (st := []) (R1 := (none, zh b I L)) dJ1_charAt_3b067_3 okJ0_checkIndex_df160 u_404 u_405 arJ0_checkIndex_df160 rfl (Nat.le_of_ble_eq_true rfl) (kJ0_checkIndex hi (by omega)) ⟨Nat.le_refl _, Nat.le_refl _⟩ ?_
  show zA G (d + 2) mJ1_charAt_3b067 6 [some (.ref (1100 + k)), some (.int (nI i))] [] (zh b I L) _
  refine zi_aload_n dJ1_charAt_3b067_6 rfl rfl ?_
  refine zi_iload_n dJ1_charAt_3b067_7 rfl rfl ?_
  refine zi_bload hk dJ1_charAt_3b067_8 (zv_in hi (by omega)) ?_
  rw [nI_clamp (show i < 2 ^ 31 by omega)]
  refine zi_sipush (v := 255) dJ1_charAt_3b067_9 (by decide) ?_
  refine zi_iand dJ1_charAt_3b067_12 ?_
  refine zi_i2c dJ1_charAt_3b067_13 ?_
  rw [show (((zByt.getD k []).getD i 0 &&& 255).toUInt32 % 65536).toInt32 = zby5 k i from e1]
  exact zi_ireturn dJ1_charAt_3b067_14 rfl e2
theorem kJ0_charAt {k i : Nat} (hk : k < 5) (hi : i < zLen.getD k 0) : zCall (d + 3) mJ0_charAt_5068e [.ref (1000 + k), .int (nI i)] (zh b I L) (some (.int (zby5 k i)), zh b I L) := by
  obtain ⟨e1, e2⟩ := zby5_c k hk i hi
  refine zCall.of okJ0_charAt_5068e (Nat.le_of_ble_eq_true rfl) ⟨Nat.le_refl _, Nat.le_refl _⟩ (fun G => ?_)
  show zA G (d + 3) mJ0_charAt_5068e 0 [some (.ref (1000 + k)), some (.int (nI i))] [] (zh b I L) _
  refine zi_aload_n dJ0_charAt_5068e_0 rfl rfl ?_
  refine zi_callT (N := mJ0_isLatin1_aae02) (av := []) (st := []) (R1 := (some (.int 1), zh b I L)) hk dJ0_charAt_5068e_1 okJ0_isLatin1_aae02 u_397 u_398 u_399 arJ0_isLatin1_aae02 rfl (Nat.le_of_ble_eq_true rfl) (kJ0_isLatin1 hk) ⟨Nat.le_refl _, Nat.le_refl _⟩ ?_
  show zA G (d + 3) mJ0_charAt_5068e 4 [some (.ref (1000 + k)), some (.int (nI i))] [.int 1] (zh b I L) _
  refine zi_if_eq (tgt := 16) dJ0_charAt_5068e_4 (by decide) (fun c => absurd c (by decide)) (fun _ => ?_)
  refine zi_aload_n dJ0_charAt_5068e_7 rfl rfl ?_
  refine zi_getV hk dJ0_charAt_5068e_8 u_1186 ?_
  refine zi_iload_n dJ0_charAt_5068e_11 rfl rfl ?_
  refine zi_callS (N := mJ1_charAt_3b067) (av := [.ref (1100 + k), .int (nI i)]) (st := []) (R1 := (some (.int (zby5 k i)), zh b I L)) dJ0_charAt_5068e_12 okJ1_charAt_3b067 u_401 u_402 arJ1_charAt_3b067 rfl (Nat.le_of_ble_eq_true rfl) (kJ1_charAt hk hi) ⟨Nat.le_refl _, Nat.le_refl _⟩ ?_
  show zA G (d + 3) mJ0_charAt_5068e 15 [some (.ref (1000 + k)), some (.int (nI i))] [.int (zby5 k i)] (zh b I L) _
  exact zi_ireturn dJ0_charAt_5068e_15 rfl e2
/-- whether the token is this word -/
def zisw (t : Nat → Nat) (k kd q e : Nat) : Bool := decide (kd = 1 ∧ e - q = zLen.getD k 0 ∧ ∀ j, j < zLen.getD k 0 → nI (t (q + j)) = zby5 k j)
theorem kX7_isWord {t : Nat → Nat} {k kd q e n : Nat} (hk : k < 5) (h4 : I 53 4 = nI kd) (h2 : I 53 2 = nI q) (h3 : I 53 3 = nI e) (hkd : kd < 1000) (hq : q ≤ e) (he : e ≤ n) (hn : n ≤ 250) (ht : ∀ j, j < n → I 54 j = nI (t j)) : zCall (d + 4) mX7_isWord [.ref 53, .ref (1000 + k)] (zh b I L) (some (.int (zB (zisw t k kd q e))), zh b I L) := by
  have hl := zlen_le k hk
  refine zCall.of okX7_isWord (Nat.le_of_ble_eq_true rfl) ⟨Nat.le_refl _, Nat.le_refl _⟩ (fun G => ?_)
  show zA G (d + 4) mX7_isWord 0 [some (.ref 53), some (.ref (1000 + k)), none] [] (zh b I L) _
  have no : ∀ {st : List (Option Value)} {x : Bool}, x = zisw t k kd q e → x = false → zA G (d + 4) mX7_isWord 24 st [] (zh b I L) (some (.int (zB (zisw t k kd q e))), zh b I L) := fun hx hf => by
    rw [← hx, hf]
    refine zi_iconst (v := 0) dX7_isWord_24 (by decide) ?_
    exact zi_ireturn dX7_isWord_25 rfl (by decide)
  refine zi_aload_n dX7_isWord_0 rfl rfl ?_
  refine zg_getI (k := 4) dX7_isWord_1 zc7 rfl (Nat.le_of_ble_eq_true rfl) (Nat.le_of_ble_eq_true rfl) u_225 rfl ?_
  refine zi_iconst (v := 1) dX7_isWord_4 (by decide) ?_
  rw [h4]
  refine zi_icmp_ne (tgt := 24) dX7_isWord_5 (by decide) (fun c => no rfl (decide_eq_false (fun z => c (by rw [z.1]; rfl)))) (fun c => ?_)
  have hkd1 : kd = 1 := (nIc (c := 1) (by omega) (by decide)).mp c
  refine zi_aload_n dX7_isWord_8 rfl rfl ?_
  refine zg_getI (k := 3) dX7_isWord_9 zc7 rfl (Nat.le_of_ble_eq_true rfl) (Nat.le_of_ble_eq_true rfl) u_224 rfl ?_
  refine zi_aload_n dX7_isWord_12 rfl rfl ?_
  refine zg_getI (k := 2) dX7_isWord_13 zc7 rfl (Nat.le_of_ble_eq_true rfl) (Nat.le_of_ble_eq_true rfl) u_222 rfl ?_
  refine zi_isub dX7_isWord_16 ?_
  rw [h2, h3, pk_sub hq]
  refine zi_aload_n dX7_isWord_17 rfl rfl ?_
  refine zi_callT (N := mJ0_length_8abf5) (av := []) (st := [.int (nI (e - q))]) (R1 := (some (.int (nI (zLen.getD k 0))), zh b I L)) hk dX7_isWord_18 okJ0_length_8abf5 u_383 u_384 u_385 arJ0_length_8abf5 rfl (Nat.le_of_ble_eq_true rfl) (kJ0_length (d := d + 2) hk) ⟨Nat.le_refl _, Nat.le_refl _⟩ ?_
  show zA G (d + 4) mX7_isWord 21 [some (.ref 53), some (.ref (1000 + k)), none] [.int (nI (zLen.getD k 0)), .int (nI (e - q))] (zh b I L) _
  refine zi_icmp_eq (tgt := 26) dX7_isWord_21 (by decide) (fun c => ?_) (fun c => no rfl (decide_eq_false (fun z => c (by rw [z.2.1]))))
  have hlen : e - q = zLen.getD k 0 := (nI_eq (by omega) (by omega)).mp c
  refine zi_iconst (v := 0) dX7_isWord_26 (by decide) ?_
  refine zi_istore_n dX7_isWord_27 rfl (Nat.le_of_ble_eq_true rfl) (ls' := [some (.ref 53), some (.ref (1000 + k)), some (.int 0)]) rfl ?_
  refine z_for (n := zLen.getD k 0) (P := fun j => (∀ i, i < j → nI (t (q + i)) = zby5 k i) → zA G (d + 4) mX7_isWord 28 [some (.ref 53), some (.ref (1000 + k)), some (.int (nI j))] [] (zh b I L) (some (.int (zB (zisw t k kd q e))), zh b I L)) ?_ ?_ 0 (Nat.zero_le _) (fun i hi => absurd hi (Nat.not_lt_zero i))
  · intro hall
    refine zi_iload_n dX7_isWord_28 rfl rfl ?_
    refine zi_aload_n dX7_isWord_29 rfl rfl ?_
    refine zi_callT (N := mJ0_length_8abf5) (av := []) (st := [.int (nI (zLen.getD k 0))]) (R1 := (some (.int (nI (zLen.getD k 0))), zh b I L)) hk dX7_isWord_30 okJ0_length_8abf5 u_383 u_384 u_385 arJ0_length_8abf5 rfl (Nat.le_of_ble_eq_true rfl) (kJ0_length (d := d + 2) hk) ⟨Nat.le_refl _, Nat.le_refl _⟩ ?_
    show zA G (d + 4) mX7_isWord 33 [some (.ref 53), some (.ref (1000 + k)), some (.int (nI (zLen.getD k 0)))] [.int (nI (zLen.getD k 0)), .int (nI (zLen.getD k 0))] (zh b I L) _
    refine zi_icmp_ge (tgt := 63) dX7_isWord_33 (by decide) (fun _ => ?_) (fun c => absurd (nI_le (Nat.le_refl _) (by omega)) c)
    rw [show zisw t k kd q e = true from decide_eq_true ⟨hkd1, hlen, hall⟩]
    refine zi_iconst (v := 1) dX7_isWord_63 (by decide) ?_
    exact zi_ireturn dX7_isWord_64 rfl (by decide)
  · intro j hj ih hall
    refine zi_iload_n dX7_isWord_28 rfl rfl ?_
    refine zi_aload_n dX7_isWord_29 rfl rfl ?_
    refine zi_callT (N := mJ0_length_8abf5) (av := []) (st := [.int (nI j)]) (R1 := (some (.int (nI (zLen.getD k 0))), zh b I L)) hk dX7_isWord_30 okJ0_length_8abf5 u_383 u_384 u_385 arJ0_length_8abf5 rfl (Nat.le_of_ble_eq_true rfl) (kJ0_length (d := d + 2) hk) ⟨Nat.le_refl _, Nat.le_refl _⟩ ?_
    show zA G (d + 4) mX7_isWord 33 [some (.ref 53), some (.ref (1000 + k)), some (.int (nI j))] [.int (nI (zLen.getD k 0)), .int (nI j)] (zh b I L) _
    refine zi_icmp_ge (tgt := 63) dX7_isWord_33 (by decide) (fun c => absurd c (nI_ge hj (by omega))) (fun _ => ?_)
    refine zi_aload_n dX7_isWord_36 rfl rfl ?_
    refine zg_getF (k := 0) (v := .ref 54) dX7_isWord_37 zc7 rfl (Nat.le_of_ble_eq_true rfl) (Nat.le_of_ble_eq_true rfl) u_219 rfl (rfl) ?_
    refine zi_aload_n dX7_isWord_40 rfl rfl ?_
    refine zg_getI (k := 2) dX7_isWord_41 zc7 rfl (Nat.le_of_ble_eq_true rfl) (Nat.le_of_ble_eq_true rfl) u_222 rfl ?_
    refine zi_iload_n dX7_isWord_44 rfl rfl ?_
    refine zi_iadd dX7_isWord_45 ?_
    rw [h2, nI_add]
    refine zg_iaload (n := 250) dX7_isWord_46 rfl (Nat.le_of_ble_eq_true rfl) (zv_in (by omega) (by decide)) ?_
    rw [zx_nI (by omega), ht _ (by omega)]
    refine zi_aload_n dX7_isWord_47 rfl rfl ?_
    refine zi_iload_n dX7_isWord_48 rfl rfl ?_
    refine zi_callT (N := mJ0_charAt_5068e) (av := [.int (nI j)]) (st := [.int (nI (t (q + j)))]) (R1 := (some (.int (zby5 k j)), zh b I L)) hk dX7_isWord_49 okJ0_charAt_5068e u_393 u_394 u_395 arJ0_charAt_5068e rfl (Nat.le_of_ble_eq_true rfl) (kJ0_charAt hk hj) ⟨Nat.le_refl _, Nat.le_refl _⟩ ?_
    show zA G (d + 4) mX7_isWord 52 [some (.ref 53), some (.ref (1000 + k)), some (.int (nI j))] [.int (zby5 k j), .int (nI (t (q + j)))] (zh b I L) _
    refine zi_icmp_eq (tgt := 57) dX7_isWord_52 (by decide) (fun c => ?_) (fun c => ?_)
    · refine zi_iinc (v := nI (j + 1)) dX7_isWord_57 rfl (Nat.le_of_ble_eq_true rfl) (nI_1 j) (ls' := [some (.ref 53), some (.ref (1000 + k)), some (.int (nI (j + 1)))]) rfl ?_
      refine zi_goto (tgt := 28) dX7_isWord_60 (by decide) ?_
      exact ih (fun i hi => by
        by_cases z : i = j
        · subst z; exact c
        · exact hall i (by omega))
    · rw [show zisw t k kd q e = false from decide_eq_false (fun z => c (z.2.2 j hj))]
      refine zi_iconst (v := 0) dX7_isWord_55 (by decide) ?_
      exact zi_ireturn dX7_isWord_56 rfl (by decide)
end TXT
