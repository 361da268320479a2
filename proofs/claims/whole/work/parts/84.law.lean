/-! the law's switch and loop -/
def ltg : List Nat := [180, 213, 266, 309, 352, 395, 458, 471, 484, 527, 560, 603, 636, 659, 672, 685, 718, 751, 784, 807, 820, 833, 846, 859, 882, 895, 928, 961, 985, 1008, 1031, 1054, 1077]
theorem lsw {G : zG} {d b : Nat} {I : Nat → Nat → Int32} {L : Nat → Nat → Int64} {x : Int32} (o0 : vp_in x G.2.2.2.2.2.1) (K0 : zLz G d 1091 x b I L) (Kk : ∀ k, k ≤ 32 → zLz G d (ltg.getD k 0) x b I L) : zLz G d 26 x b I L := by
  rcases zsw2 (G.2.2.2.2.2.2.1 x.toNatClampNeg &&& 63) 0 32 (by decide) with c | ⟨k, hk1, hk2, c⟩
  · obtain ⟨bf, If, Lf, K⟩ := K0
    refine ⟨bf, If, Lf, ?_⟩
    refine zi_aload_n dL_law_26 rfl rfl ?_
    refine zi_iload_n dL_law_27 rfl rfl ?_
    refine zi_sload dL_law_28 o0 ?_
    refine zi_bipush (v := 63) dL_law_29 (by decide) ?_
    refine zi_iand dL_law_31 ?_
    exact zi_tableOut (tgt := 1091) dL_law_32 c (by decide) K
  · obtain ⟨bf, If, Lf, K⟩ := Kk k hk2
    refine ⟨bf, If, Lf, ?_⟩
    refine zi_aload_n dL_law_26 rfl rfl ?_
    refine zi_iload_n dL_law_27 rfl rfl ?_
    refine zi_sload dL_law_28 o0 ?_
    refine zi_bipush (v := 63) dL_law_29 (by decide) ?_
    refine zi_iand dL_law_31 ?_
    have hk : k = 0 ∨ k = 1 ∨ k = 2 ∨ k = 3 ∨ k = 4 ∨ k = 5 ∨ k = 6 ∨ k = 7 ∨ k = 8 ∨ k = 9 ∨ k = 10 ∨ k = 11 ∨ k = 12 ∨ k = 13 ∨ k = 14 ∨ k = 15 ∨ k = 16 ∨ k = 17 ∨ k = 18 ∨ k = 19 ∨ k = 20 ∨ k = 21 ∨ k = 22 ∨ k = 23 ∨ k = 24 ∨ k = 25 ∨ k = 26 ∨ k = 27 ∨ k = 28 ∨ k = 29 ∨ k = 30 ∨ k = 31 ∨ k = 32 := by omega
    rcases hk with rfl | rfl | rfl | rfl | rfl | rfl | rfl | rfl | rfl | rfl | rfl | rfl | rfl | rfl | rfl | rfl | rfl | rfl | rfl | rfl | rfl | rfl | rfl | rfl | rfl | rfl | rfl | rfl | rfl | rfl | rfl | rfl | rfl
    · exact zi_tableIn (off := 148) (tgt := 180) dL_law_32 (by rw [c]; decide) (by rw [c]; decide) (by rw [c]; rfl) (by decide) K
    · exact zi_tableIn (off := 181) (tgt := 213) dL_law_32 (by rw [c]; decide) (by rw [c]; decide) (by rw [c]; rfl) (by decide) K
    · exact zi_tableIn (off := 234) (tgt := 266) dL_law_32 (by rw [c]; decide) (by rw [c]; decide) (by rw [c]; rfl) (by decide) K
    · exact zi_tableIn (off := 277) (tgt := 309) dL_law_32 (by rw [c]; decide) (by rw [c]; decide) (by rw [c]; rfl) (by decide) K
    · exact zi_tableIn (off := 320) (tgt := 352) dL_law_32 (by rw [c]; decide) (by rw [c]; decide) (by rw [c]; rfl) (by decide) K
    · exact zi_tableIn (off := 363) (tgt := 395) dL_law_32 (by rw [c]; decide) (by rw [c]; decide) (by rw [c]; rfl) (by decide) K
    · exact zi_tableIn (off := 426) (tgt := 458) dL_law_32 (by rw [c]; decide) (by rw [c]; decide) (by rw [c]; rfl) (by decide) K
    · exact zi_tableIn (off := 439) (tgt := 471) dL_law_32 (by rw [c]; decide) (by rw [c]; decide) (by rw [c]; rfl) (by decide) K
    · exact zi_tableIn (off := 452) (tgt := 484) dL_law_32 (by rw [c]; decide) (by rw [c]; decide) (by rw [c]; rfl) (by decide) K
    · exact zi_tableIn (off := 495) (tgt := 527) dL_law_32 (by rw [c]; decide) (by rw [c]; decide) (by rw [c]; rfl) (by decide) K
    · exact zi_tableIn (off := 528) (tgt := 560) dL_law_32 (by rw [c]; decide) (by rw [c]; decide) (by rw [c]; rfl) (by decide) K
    · exact zi_tableIn (off := 571) (tgt := 603) dL_law_32 (by rw [c]; decide) (by rw [c]; decide) (by rw [c]; rfl) (by decide) K
    · exact zi_tableIn (off := 604) (tgt := 636) dL_law_32 (by rw [c]; decide) (by rw [c]; decide) (by rw [c]; rfl) (by decide) K
    · exact zi_tableIn (off := 627) (tgt := 659) dL_law_32 (by rw [c]; decide) (by rw [c]; decide) (by rw [c]; rfl) (by decide) K
    · exact zi_tableIn (off := 640) (tgt := 672) dL_law_32 (by rw [c]; decide) (by rw [c]; decide) (by rw [c]; rfl) (by decide) K
    · exact zi_tableIn (off := 653) (tgt := 685) dL_law_32 (by rw [c]; decide) (by rw [c]; decide) (by rw [c]; rfl) (by decide) K
    · exact zi_tableIn (off := 686) (tgt := 718) dL_law_32 (by rw [c]; decide) (by rw [c]; decide) (by rw [c]; rfl) (by decide) K
    · exact zi_tableIn (off := 719) (tgt := 751) dL_law_32 (by rw [c]; decide) (by rw [c]; decide) (by rw [c]; rfl) (by decide) K
    · exact zi_tableIn (off := 752) (tgt := 784) dL_law_32 (by rw [c]; decide) (by rw [c]; decide) (by rw [c]; rfl) (by decide) K
    · exact zi_tableIn (off := 775) (tgt := 807) dL_law_32 (by rw [c]; decide) (by rw [c]; decide) (by rw [c]; rfl) (by decide) K
    · exact zi_tableIn (off := 788) (tgt := 820) dL_law_32 (by rw [c]; decide) (by rw [c]; decide) (by rw [c]; rfl) (by decide) K
    · exact zi_tableIn (off := 801) (tgt := 833) dL_law_32 (by rw [c]; decide) (by rw [c]; decide) (by rw [c]; rfl) (by decide) K
    · exact zi_tableIn (off := 814) (tgt := 846) dL_law_32 (by rw [c]; decide) (by rw [c]; decide) (by rw [c]; rfl) (by decide) K
    · exact zi_tableIn (off := 827) (tgt := 859) dL_law_32 (by rw [c]; decide) (by rw [c]; decide) (by rw [c]; rfl) (by decide) K
    · exact zi_tableIn (off := 850) (tgt := 882) dL_law_32 (by rw [c]; decide) (by rw [c]; decide) (by rw [c]; rfl) (by decide) K
    · exact zi_tableIn (off := 863) (tgt := 895) dL_law_32 (by rw [c]; decide) (by rw [c]; decide) (by rw [c]; rfl) (by decide) K
    · exact zi_tableIn (off := 896) (tgt := 928) dL_law_32 (by rw [c]; decide) (by rw [c]; decide) (by rw [c]; rfl) (by decide) K
    · exact zi_tableIn (off := 929) (tgt := 961) dL_law_32 (by rw [c]; decide) (by rw [c]; decide) (by rw [c]; rfl) (by decide) K
    · exact zi_tableIn (off := 953) (tgt := 985) dL_law_32 (by rw [c]; decide) (by rw [c]; decide) (by rw [c]; rfl) (by decide) K
    · exact zi_tableIn (off := 976) (tgt := 1008) dL_law_32 (by rw [c]; decide) (by rw [c]; decide) (by rw [c]; rfl) (by decide) K
    · exact zi_tableIn (off := 999) (tgt := 1031) dL_law_32 (by rw [c]; decide) (by rw [c]; decide) (by rw [c]; rfl) (by decide) K
    · exact zi_tableIn (off := 1022) (tgt := 1054) dL_law_32 (by rw [c]; decide) (by rw [c]; decide) (by rw [c]; rfl) (by decide) K
    · exact zi_tableIn (off := 1045) (tgt := 1077) dL_law_32 (by rw [c]; decide) (by rw [c]; decide) (by rw [c]; rfl) (by decide) K
theorem lnx {G : zG} {d b : Nat} {I : Nat → Nat → Int32} {L : Nat → Nat → Int64} {x : Int32} (K : zLz G d 18 (x + 5) b I L) : zLz G d 1091 x b I L := by
  obtain ⟨bf, If, Lf, K⟩ := K
  refine ⟨bf, If, Lf, ?_⟩
  refine zi_iinc (v := x + 5) (ls' := [some (.ref 2000), some (.ref 0), some (.ref 56), some (.int (x + 5))]) dL_law_1091 rfl (by decide) rfl rfl ?_
  exact zi_goto (tgt := 18) dL_law_1094 (by decide) K
theorem lhd {G : zG} {d b : Nat} {I : Nat → Nat → Int32} {L : Nat → Nat → Int64} {x : Int32} (h : ¬ nI G.2.2.2.2.2.1 - 5 < x) (K : zLz G d 26 x b I L) : zLz G d 18 x b I L := by
  obtain ⟨bf, If, Lf, K⟩ := K
  refine ⟨bf, If, Lf, ?_⟩
  refine zi_iload_n dL_law_18 rfl rfl ?_
  refine zi_aload_n dL_law_19 rfl rfl ?_
  refine zi_slen dL_law_20 ?_
  refine zi_iconst (v := 5) dL_law_21 (by decide) ?_
  refine zi_isub dL_law_22 ?_
  exact zi_icmp_gt (tgt := 1097) dL_law_23 (by decide) (fun q => absurd q h) (fun _ => K)
theorem lex {G : zG} {d b : Nat} {I : Nat → Nat → Int32} {L : Nat → Nat → Int64} {x : Int32} (h : nI G.2.2.2.2.2.1 - 5 < x) : zLz G d 18 x b I L := by
  refine ⟨b, I, L, ?_⟩
  refine zi_iload_n dL_law_18 rfl rfl ?_
  refine zi_aload_n dL_law_19 rfl rfl ?_
  refine zi_slen dL_law_20 ?_
  refine zi_iconst (v := 5) dL_law_21 (by decide) ?_
  refine zi_isub dL_law_22 ?_
  refine zi_icmp_gt (tgt := 1097) dL_law_23 (by decide) (fun _ => ?_) (fun q => absurd h q)
  refine zi_iconst (v := 1) dL_law_1097 (by decide) ?_
  exact zi_ireturn dL_law_1098 rfl (by decide)
theorem llp {G : zG} {d : Nat} (hL : G.2.2.2.2.2.1 ≤ 320) : ∀ (n i : Nat), G.2.2.2.2.2.1 < i + 5 * n → i ≤ 1000 → ∀ (b : Nat) (I : Nat → Nat → Int32) (L : Nat → Nat → Int64) (σ : zσ), zCl b I L σ → zRf I L σ → zIv σ → zLz G d 18 (nI i) b I L := by
  intro n
  have e5 : (nI G.2.2.2.2.2.1 - 5).toInt = (G.2.2.2.2.2.1 : Int) - 5 := pk_sub_toInt (b := 5) (by omega) (by decide)
  have ex : ∀ i : Nat, i ≤ 1000 → G.2.2.2.2.2.1 < i + 5 → nI G.2.2.2.2.2.1 - 5 < nI i := fun i h1 h2 => by
    rw [Int32.lt_iff_toInt_lt, e5, nI_toInt (by omega)]
    omega
  induction n with
  | zero =>
    intro i h1 h2 b I L σ hc hr hi
    exact lex (ex i h2 (by omega))
  | succ n ih =>
    intro i h1 h2 b I L σ hc hr hi
    by_cases hq : i + 5 ≤ G.2.2.2.2.2.1
    · have hadd : ∀ k : Nat, k < 5 → vp_in (nI i + nI k) G.2.2.2.2.2.1 := fun k hk => by
        rw [nI_add]
        exact zv_in (by omega) (by omega)
      have o0 : vp_in (nI i) G.2.2.2.2.2.1 := zv_in (by omega) (by omega)
      have o1 : vp_in (nI i + 1) G.2.2.2.2.2.1 := hadd 1 (by decide)
      have o2 : vp_in (nI i + 2) G.2.2.2.2.2.1 := hadd 2 (by decide)
      have o3 : vp_in (nI i + 3) G.2.2.2.2.2.1 := hadd 3 (by decide)
      have o4 : vp_in (nI i + 4) G.2.2.2.2.2.1 := hadd 4 (by decide)
      have K : ∀ (b' : Nat) (I' : Nat → Nat → Int32) (L' : Nat → Nat → Int64) (σ' : zσ), zCl b' I' L' σ' → zRf I' L' σ' → zIv σ' → zLz G d 1091 (nI i) b' I' L' := fun b' I' L' σ' c1 c2 c3 => by
        refine lnx ?_
        have := ih (i + 5) (by omega) (by omega) b' I' L' σ' c1 c2 c3
        rw [← nI_add] at this
        exact this
      refine lhd (fun q => ?_) (lsw o0 (K b I L σ hc hr hi) (fun k hk => ?_))
      · rw [Int32.lt_iff_toInt_lt, e5, nI_toInt (by omega)] at q
        omega
      · have hk : k = 0 ∨ k = 1 ∨ k = 2 ∨ k = 3 ∨ k = 4 ∨ k = 5 ∨ k = 6 ∨ k = 7 ∨ k = 8 ∨ k = 9 ∨ k = 10 ∨ k = 11 ∨ k = 12 ∨ k = 13 ∨ k = 14 ∨ k = 15 ∨ k = 16 ∨ k = 17 ∨ k = 18 ∨ k = 19 ∨ k = 20 ∨ k = 21 ∨ k = 22 ∨ k = 23 ∨ k = 24 ∨ k = 25 ∨ k = 26 ∨ k = 27 ∨ k = 28 ∨ k = 29 ∨ k = 30 ∨ k = 31 ∨ k = 32 := by omega
        rcases hk with rfl | rfl | rfl | rfl | rfl | rfl | rfl | rfl | rfl | rfl | rfl | rfl | rfl | rfl | rfl | rfl | rfl | rfl | rfl | rfl | rfl | rfl | rfl | rfl | rfl | rfl | rfl | rfl | rfl | rfl | rfl | rfl | rfl
        · exact lc_0 hc hr hi o1 o2 o3 o4 K
        · exact lc_1 hc hr hi o1 o2 o3 o4 K
        · exact lc_2 hc hr hi o1 o2 o3 o4 K
        · exact lc_3 hc hr hi o1 o2 o3 o4 K
        · exact lc_4 hc hr hi o1 o2 o3 o4 K
        · exact lc_5 hc hr hi o1 o2 o3 o4 K
        · exact lc_6 hc hr hi o1 o2 o3 o4 K
        · exact lc_7 hc hr hi o1 o2 o3 o4 K
        · exact lc_8 hc hr hi o1 o2 o3 o4 K
        · exact lc_9 hc hr hi o1 o2 o3 o4 K
        · exact lc_10 hc hr hi o1 o2 o3 o4 K
        · exact lc_11 hc hr hi o1 o2 o3 o4 K
        · exact lc_12 hc hr hi o1 o2 o3 o4 K
        · exact lc_13 hc hr hi o1 o2 o3 o4 K
        · exact lc_14 hc hr hi o1 o2 o3 o4 K
        · exact lc_15 hc hr hi o1 o2 o3 o4 K
        · exact lc_16 hc hr hi o1 o2 o3 o4 K
        · exact lc_17 hc hr hi o1 o2 o3 o4 K
        · exact lc_18 hc hr hi o1 o2 o3 o4 K
        · exact lc_19 hc hr hi o1 o2 o3 o4 K
        · exact lc_20 hc hr hi o1 o2 o3 o4 K
        · exact lc_21 hc hr hi o1 o2 o3 o4 K
        · exact lc_22 hc hr hi o1 o2 o3 o4 K
        · exact lc_23 hc hr hi o1 o2 o3 o4 K
        · exact lc_24 hc hr hi o1 o2 o3 o4 K
        · exact lc_25 hc hr hi o1 o2 o3 o4 K
        · exact lc_26 hc hr hi o1 o2 o3 o4 K
        · exact lc_27 hc hr hi o1 o2 o3 o4 K
        · exact lc_28 hc hr hi o1 o2 o3 o4 K
        · exact lc_29 hc hr hi o1 o2 o3 o4 K
        · exact lc_30 hc hr hi o1 o2 o3 o4 K
        · exact lc_31 hc hr hi o1 o2 o3 o4 K
        · exact lc_32 hc hr hi o1 o2 o3 o4 K
    · exact lex (ex i h2 (by omega))
theorem zlz0 (i : Nat) (h : 10 ≤ i) (k : Nat) : zlay zI0 1 6 5 i k = 0 := by
  rw [zlay_ne (by omega)]
  rfl
theorem zll0 (i : Nat) (h : 1 ≤ i) (k : Nat) : zupL (zupL zL0 0 10 0) 0 11 1 i k = 0 := by
  rw [zupL_ne (by omega), zupL_ne (by omega)]
  rfl
set_option maxRecDepth 100000 in
theorem lwhole {G : zG} {d : Nat} (hL : G.2.2.2.2.2.1 ≤ 320) : ∃ (bf : Nat) (If : Nat → Nat → Int32) (Lf : Nat → Nat → Int64), zA G (d + 41) mL_law 0 [some (.ref 2000), none, none, none] [] (zk 0 zI0 zL0 (zF 1)) (some (.int 1), zh bf If Lf) := by
  obtain ⟨bf, If, Lf, K⟩ := llp (G := G) (d := d) hL 200 0 (by omega) (by decide) 1 zI1 zL9 zσ0 zs_cl zs_rf zs_iv
  refine ⟨bf, If, Lf, ?_⟩
  refine zn_new (n := 0) dL_law_0 zc11 u_22 u_23 u_1 rfl (by decide) rfl (fun _ => rfl) (fun _ => rfl) ⟨Nat.le_of_ble_eq_true rfl, Nat.le_of_ble_eq_true rfl⟩ ?_
  show zA G (d + 41) mL_law 3 _ _ (zk 1 zI0 zL0 (zFk 0 0 (zF 1))) _
  refine zi_dup dL_law_3 rfl ?_
  refine zi_callI (d := d + 40) (h := zk 1 zI0 zL0 (zFk 0 0 (zF 1))) (N := mX11_init) (i := 0) (av := []) (st := [.ref 0]) (R1 := (none, zk 56 (zlay zI0 1 6 5) (zupL (zupL zL0 0 10 0) 0 11 1) (zF 1))) dL_law_4 okX11_init u_24 u_25 rfl rfl arX11_init (Nat.le_of_ble_eq_true rfl) rfl (Nat.le_of_ble_eq_true rfl) (kX11_init (d := d + 35) (fun _ _ _ => rfl) (fun _ _ _ => rfl)) ⟨Nat.le_of_ble_eq_true rfl, Nat.le_of_ble_eq_true rfl⟩ ?_
  show zA G (d + 41) mL_law 7 _ [.ref 0] (zk 56 (zlay zI0 1 6 5) (zupL (zupL zL0 0 10 0) 0 11 1) (zF 1)) _
  refine zi_astore_n (ls' := [some (.ref 2000), some (.ref 0), none, none]) dL_law_7 rfl (by decide) rfl ?_
  refine zn_new (n := 56) dL_law_8 zc12 u_792 u_793 u_14 rfl (by decide) rfl (zlz0 56 (by decide)) (zll0 56 (by decide)) ⟨Nat.le_of_ble_eq_true rfl, Nat.le_of_ble_eq_true rfl⟩ ?_
  show zA G (d + 41) mL_law 11 _ _ (zk 57 (zlay zI0 1 6 5) (zupL (zupL zL0 0 10 0) 0 11 1) (zFk 56 0 (zF 1))) _
  refine zi_dup dL_law_11 rfl ?_
  refine zi_callI (d := d + 40) (h := zk 57 (zlay zI0 1 6 5) (zupL (zupL zL0 0 10 0) 0 11 1) (zFk 56 0 (zF 1))) (N := mX12_init) (i := 56) (av := []) (st := [.ref 56]) (R1 := (none, zh 1 zI1 zL9)) dL_law_12 okX12_init u_794 u_795 rfl rfl arX12_init (Nat.le_of_ble_eq_true rfl) rfl (Nat.le_of_ble_eq_true rfl) (kX12_init (d := d + 38) (fun i h k => zlz0 i (Nat.le_trans (by decide) h) k) (fun i h k => zll0 i (Nat.le_trans (by decide) h) k)) ⟨Nat.le_refl _, Nat.le_refl _⟩ ?_
  show zA G (d + 41) mL_law 15 _ [.ref 56] (zh 1 zI1 zL9) _
  refine zi_astore_n (ls' := [some (.ref 2000), some (.ref 0), some (.ref 56), none]) dL_law_15 rfl (by decide) rfl ?_
  refine zi_iconst (v := 0) dL_law_16 (by decide) ?_
  refine zi_istore_n (ls' := [some (.ref 2000), some (.ref 0), some (.ref 56), some (.int 0)]) dL_law_17 rfl (by decide) rfl ?_
  exact K
