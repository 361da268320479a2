/-! RULES: what the machine's own texts are, and the script -/
section ZTEXT
variable {G : zG} {d : Nat} {M : zM} {pc : Nat} {ls : List (Option Value)} {st : List Value} {h : zH} {R : zR}
theorem zad_K {G : zG} {k : Nat} (h : k < 5) : zad G (1000 + k) = G.2.2.2.1.1 k := by
  have h1 : ¬ 1000 + k < 1000 := by omega
  have h2 : 1000 + k < 1100 := by omega
  simp [zad, h1, h2]
theorem zad_V {G : zG} {k : Nat} (h : k < 5) : zad G (1100 + k) = G.2.2.2.1.2 k := by
  have h1 : ¬ 1100 + k < 1000 := by omega
  have h2 : ¬ 1100 + k < 1100 := by omega
  have h3 : 1100 + k < 2000 := by omega
  simp [zad, h1, h2, h3]
theorem zad_b {G : zG} : zad G 2000 = G.2.2.2.2.1 := by simp [zad]
theorem zad_q {G : zG} : zad G 3000 = G.2.2.2.2.2.2.2 := by simp [zad]
theorem zi_getC {ix : Nat} (hd : decode M.2.1 pc = .ok (.getstatic ix, 3)) (hl : Cond.fieldLink M.1.cls ix "java/lang/String" "COMPACT_STRINGS" "Z" ∈ zU) (K : zA G d M (pc + 3) ls (.int 1 :: st) h R) : zA G d M pc ls st h R := by
  intro p l e Rm s m args below meth c0 n0 s0 Q H locs LS C0 hn hH hS hL hQ
  exact va_gets C0.1 C0.2.1 C0.2.2.2.2.2.1.2.2.2.2.1 hS C0.2.2.2.1 (C0.2.2.2.2.1 _ hl) (fun _ q => q) hd (K p l e Rm s m args below meth c0 n0 s0 Q H locs LS C0 hn hH hS hL hQ)
theorem zi_getQ {ix : Nat} (hd : decode M.2.1 pc = .ok (.getstatic ix, 3)) (hl : Cond.fieldLink M.1.cls ix "jdk/internal/util/Preconditions" "SIOOBE_FORMATTER" "Ljava/util/function/BiFunction;" ∈ zU) (K0 : zA G d M (pc + 3) ls (.null :: st) h R) (K1 : zA G d M (pc + 3) ls (.ref 3000 :: st) h R) : zA G d M pc ls st h R := by
  intro p l e Rm s m args below meth c0 n0 s0 Q H locs LS C0 hn hH hS hL hQ
  rcases C0.2.2.2.2.2.1.2.2.2.2.2.1 with q | q
  · exact va_gets C0.1 C0.2.1 q hS C0.2.2.2.1 (C0.2.2.2.2.1 _ hl) (fun _ q => q) hd (K0 p l e Rm s m args below meth c0 n0 s0 Q H locs LS C0 hn hH hS hL hQ)
  · have KK := K1 p l e Rm s m args below meth c0 n0 s0 Q H locs LS C0 hn hH hS hL hQ
    rw [List.map_cons, show ztv G (.ref 3000) = .ref G.2.2.2.2.2.2.2 by rw [ztv, zad_q]] at KK
    exact va_gets C0.1 C0.2.1 q hS C0.2.2.2.1 (C0.2.2.2.2.1 _ hl) (fun _ q => q) hd KK
theorem zi_getV {ix k : Nat} (hk : k < 5) (hd : decode M.2.1 pc = .ok (.getfield ix, 3)) (hl : Cond.fieldLink M.1.cls ix "java/lang/String" "value" "[B" ∈ zU) (K : zA G d M (pc + 3) ls (.ref (1100 + k) :: st) h R) : zA G d M pc ls (.ref (1000 + k) :: st) h R := by
  intro p l e Rm s m args below meth c0 n0 s0 Q H locs LS C0 hn hH hS hL hQ
  have KK := K p l e Rm s m args below meth c0 n0 s0 Q H locs LS C0 hn hH hS hL hQ
  rw [List.map_cons, show ztv G (.ref (1100 + k)) = .ref (G.2.2.2.1.2 k) by rw [ztv, zad_V hk]] at KK
  rw [List.map_cons, show ztv G (.ref (1000 + k)) = .ref (G.2.2.2.1.1 k) by rw [ztv, zad_K hk]]
  exact vk_getf C0.1 C0.2.1 (C0.2.2.2.2.2.1.2.2.2.1.1 k hk).2.2.1 hS C0.2.2.2.1 (C0.2.2.2.2.1 _ hl) (fun _ q => q) hd KK
theorem zi_getcoder {ix k : Nat} (hk : k < 5) (hd : decode M.2.1 pc = .ok (.getfield ix, 3)) (hl : Cond.fieldLink M.1.cls ix "java/lang/String" "coder" "B" ∈ zU) (K : zA G d M (pc + 3) ls (.int 0 :: st) h R) : zA G d M pc ls (.ref (1000 + k) :: st) h R := by
  intro p l e Rm s m args below meth c0 n0 s0 Q H locs LS C0 hn hH hS hL hQ
  have KK := K p l e Rm s m args below meth c0 n0 s0 Q H locs LS C0 hn hH hS hL hQ
  rw [List.map_cons, show ztv G (.ref (1000 + k)) = .ref (G.2.2.2.1.1 k) by rw [ztv, zad_K hk]]
  exact vk_getf C0.1 C0.2.1 (C0.2.2.2.2.2.1.2.2.2.1.1 k hk).2.1 hS C0.2.2.2.1 (C0.2.2.2.2.1 _ hl) (fun _ q => q) hd KK
theorem zi_blen {k : Nat} (hk : k < 5) (hd : decode M.2.1 pc = .ok (.arraylength, 1)) (K : zA G d M (pc + 1) ls (.int (nI (zLen.getD k 0)) :: st) h R) : zA G d M pc ls (.ref (1100 + k) :: st) h R := by
  intro p l e Rm s m args below meth c0 n0 s0 Q H locs LS C0 hn hH hS hL hQ
  have KK := K p l e Rm s m args below meth c0 n0 s0 Q H locs LS C0 hn hH hS hL hQ
  rw [List.map_cons, show ztv G (.ref (1100 + k)) = .ref (G.2.2.2.1.2 k) by rw [ztv, zad_V hk]]
  exact va_tlen C0.1 C0.2.1 (C0.2.2.2.2.2.1.2.2.2.1.1 k hk).2.2.2 hS rfl hd KK
theorem zi_bload {k : Nat} {i : Int32} (hk : k < 5) (hd : decode M.2.1 pc = .ok (.baload, 1)) (hi : vp_in i (zLen.getD k 0)) (K : zA G d M (pc + 1) ls (.int ((zByt.getD k []).getD i.toNatClampNeg 0) :: st) h R) : zA G d M pc ls (.int i :: .ref (1100 + k) :: st) h R := by
  intro p l e Rm s m args below meth c0 n0 s0 Q H locs LS C0 hn hH hS hL hQ
  have KK := K p l e Rm s m args below meth c0 n0 s0 Q H locs LS C0 hn hH hS hL hQ
  rw [List.map_cons, List.map_cons, show ztv G (.ref (1100 + k)) = .ref (G.2.2.2.1.2 k) by rw [ztv, zad_V hk]]
  exact va_tb C0.1 C0.2.1 (C0.2.2.2.2.2.1.2.2.2.1.1 k hk).2.2.2 hS hi rfl hd KK
/-- a method of String on a constant -/
theorem zi_callT {ix k : Nat} {N : zM} {av stk : List Value} {R1 : zR} (hk : k < 5) (hd : decode M.2.1 pc = .ok (.invokevirtual ix, 3)) (hN : zMok N) (hl : Cond.methodLink M.1.cls ix N.1 ∈ zU) (h1 : Cond.instanceMethod N.1 ∈ zU) (h2 : Cond.selects "java/lang/String" N.1 N.1 ∈ zU) (hn1 : zar N av.length) (hstk : stk = av.reverse ++ .ref (1000 + k) :: st) (hst : (st.map fun v => v.category).sum ≤ 8) (hc : zCall d N (.ref (1000 + k) :: av) h R1) (hR : R1.2.1.1 ≤ R.2.1.1 ∧ R1.2.1.2.1 ≤ R.2.1.2.1) (K : zA G (d + 1) M (pc + 3) ls (R1.1.toList ++ st) R1.2 R) : zA G (d + 1) M pc ls stk h R := by
  intro p l e Rm s m args below meth c0 n0 s0 Q H locs LS C0 hn hH hS hL hQ
  subst hstk
  have hm := hc.1
  have hpre := z_pre (av := .ref (1000 + k) :: av) hH hS C0.2.2.2.2.2.1
  have hrc := vk_recv (i := k) C0.2.2.2.2.2.1.2.2.2.1 hk hS
  rw [← zad_K (G := G) hk] at hrc
  have hr := va_runV (C := "java/lang/String") (b := zad G (1000 + k)) (As := av.map (ztv G)) (rest := st.map (ztv G)) (n := av.length) (g := F0 m pc LS ((av.reverse ++ .ref (1000 + k) :: st).map (ztv G))) (below := below) (meth := meth) (e := e) (cells := h.1.1 - n0) (slots := h.1.2.1 - s0) (locs := locs) (H := H) ⟨C0.1, C0.2.1, C0.2.2.1, C0.2.2.2.1, C0.2.2.2.2.1⟩ (hc.2 G l) ⟨callB_of (bytes := N.2.1) (maxL := N.2.2.1) (ret := N.2.2.2) (own := M.1.cls) (index := ix) av.length C0.2.2.2.2.1 (zGood hN) rfl rfl rfl (C0.2.2.2.2.1 _ hN.2.2.1) (C0.2.2.2.2.1 _ hl) ⟨hN.2.2.2.1.1, hN.2.2.2.1.2, hn1⟩ ⟨by show d + 1 ≤ _; exact C0.2.2.2.2.2.2.2.1, by show 8 + (_ + 11) + 64 * d ≤ _; have := C0.2.2.2.2.2.2.2.2; have := hN.2.2.2.2; omega⟩, C0.2.2.2.2.1 _ h1, C0.2.2.2.2.1 _ h2⟩ ⟨hpre.1, hrc, hpre.2⟩ rfl (by simp) hL.1 (by show _ = _; rw [List.map_append, List.map_reverse]; rfl) (by rw [ztv_cats]; show 2 * 0 + _ ≤ 8; omega) hd ⟨by omega, by omega⟩
  exact z_cont hr hS (fun H1 locs1 hH1 hS1 => z_rest hm K C0 hn hH1 hS1 hL hQ)
end ZTEXT
/-! the script -/
section ZSCR
variable {G : zG} {d : Nat} {M : zM} {pc : Nat} {ls : List (Option Value)} {st : List Value} {h : zH} {R : zR}
theorem zi_sload {i : Int32} (hd : decode M.2.1 pc = .ok (.iaload, 1)) (hi : vp_in i G.2.2.2.2.2.1) (K : zA G d M (pc + 1) ls (.int (G.2.2.2.2.2.2.1 i.toNatClampNeg) :: st) h R) : zA G d M pc ls (.int i :: .ref 2000 :: st) h R := by
  intro p l e Rm s m args below meth c0 n0 s0 Q H locs LS C0 hn hH hS hL hQ
  have KK := K p l e Rm s m args below meth c0 n0 s0 Q H locs LS C0 hn hH hS hL hQ
  rw [List.map_cons, List.map_cons, show ztv G (.ref 2000) = .ref G.2.2.2.2.1 by rw [ztv, zad_b]]
  obtain ⟨-, -, -, -, -, -, k7, k8, k9⟩ := C0.2.2.2.2.2.1
  exact va_sld C0.1 C0.2.1 k7 (Nat.lt_of_lt_of_le k8 k9) (Nat.not_le.mpr k8) hS hi hd KK
theorem zi_slen (hd : decode M.2.1 pc = .ok (.arraylength, 1)) (K : zA G d M (pc + 1) ls (.int (nI G.2.2.2.2.2.1) :: st) h R) : zA G d M pc ls (.ref 2000 :: st) h R := by
  intro p l e Rm s m args below meth c0 n0 s0 Q H locs LS C0 hn hH hS hL hQ
  have KK := K p l e Rm s m args below meth c0 n0 s0 Q H locs LS C0 hn hH hS hL hQ
  rw [List.map_cons, show ztv G (.ref 2000) = .ref G.2.2.2.2.1 by rw [ztv, zad_b]]
  obtain ⟨-, -, -, -, -, -, k7, k8, k9⟩ := C0.2.2.2.2.2.1
  exact va_slen C0.1 C0.2.1 k7 (Nat.lt_of_lt_of_le k8 k9) (Nat.not_le.mpr k8) hS hd KK
end ZSCR
