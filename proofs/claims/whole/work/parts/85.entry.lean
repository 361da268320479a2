/-! YOUR PART: the world at the law's entry -/
def ztm (i : Nat) : Term := .string "CheeseHill$Text" ([37, 57, 65, 69, 74].getD i 0)
def zgv : List Cond := flatC (Jvm.Cond.and given_1 narrow_1)
theorem zg_ex : ∀ i, i < 5 → Cond.exactly (ztm i) "java/lang/String" ∈ zgv := by decide +kernel
theorem zg_co : ∀ i, i < 5 → Cond.eq (.field (ztm i) "java/lang/String" "coder" "B") (.int 0) ∈ zgv := by decide +kernel
theorem zg_ar : ∀ i, i < 5 → Cond.arrayOf (.field (ztm i) "java/lang/String" "value" "[B") .byte ∈ zgv := by decide +kernel
theorem zg_le : ∀ i, i < 5 → Cond.eq (.length (.field (ztm i) "java/lang/String" "value" "[B")) (.int (Int32.ofNat (zLen.getD i 0))) ∈ zgv := by decide +kernel
theorem zg_el : ∀ i, i < 5 → ∀ j, j < zLen.getD i 0 → Cond.eq (.elem (.field (ztm i) "java/lang/String" "value" "[B") (.int (Int32.ofNat j))) (.int ((zByt.getD i []).getD j 0)) ∈ zgv := by decide +kernel
theorem zg_ne : ∀ i, i < 5 → ∀ j, j < 5 → i ≠ j → Cond.not (Cond.eq (ztm i) (ztm j)) ∈ zgv ∨ Cond.not (Cond.eq (ztm j) (ztm i)) ∈ zgv := by decide +kernel
theorem zg_cs : Cond.eq (.static "java/lang/String" "COMPACT_STRINGS" "Z") (.int 1) ∈ zgv := by decide +kernel
theorem zg_sf : Cond.isRef (.static "jdk/internal/util/Preconditions" "SIOOBE_FORMATTER" "Ljava/util/function/BiFunction;") ∈ zgv := by decide +kernel
theorem zl_nest : ∀ q ∈ zNest, Cond.methodLinkNest q.1 q.2.1 q.2.2 "CheeseHill" ∈ lw_tbl := by decide +kernel
theorem zl_str : ∀ q ∈ zTx, Cond.stringRef RX7 q.1 q.2 ∈ lw_tbl := by decide +kernel
theorem zl_cs : Cond.laysStatic "java/lang/String" "COMPACT_STRINGS" "Z" ∈ lw_tbl := by decide +kernel
theorem zl_sf : Cond.laysStatic "jdk/internal/util/Preconditions" "SIOOBE_FORMATTER" "Ljava/util/function/BiFunction;" ∈ lw_tbl := by decide +kernel
theorem zl_ics : Cond.initialized "java/lang/String" ∈ lw_tbl := by decide +kernel
theorem zl_isf : Cond.initialized "jdk/internal/util/Preconditions" ∈ lw_tbl := by decide +kernel
theorem zTx_tm : ∀ k, k < 5 → (ztm k = .string RX7 ((zTx.getD k (0, "")).1)) := by decide +kernel
theorem zarr_of {args : Array Value} {s : State} {ty : FieldType} (h : (Cond.arrayClass ty).before args s = true) : ∃ cA : ClassId, ArrOfT s cA ty ∧ s.vm.findClass ("[" ++ ty.toString) = some cA := by
  obtain ⟨cA, kA, comp, hfind, hk, hkind⟩ := Cond.arrayClass_spec h
  exact ⟨cA, fun n z => ⟨fun k h => (by cases h), kA, hk, comp, hkind⟩, hfind⟩
theorem zknown {args : Array Value} {s : State} (hU : ∀ w ∈ zU, w.before args s = true) : ∃ D : va_G, ∀ (c : Nat) (q : vw_C), vwCl[c]? = some q → u_Kn s q.1 q.2.1 q.2.2 (D.1 c) (D.2 c) := by
  obtain ⟨c0, i0, h0⟩ := u_known (C := RX0) (T := TX0) (N := 0) (n := 0) hU inX0 (hU _ u_143)
  obtain ⟨c1, i1, h1⟩ := u_known (C := RX1) (T := TX1) (N := 2) (n := 2) hU inX1 (hU _ u_200)
  obtain ⟨c2, i2, h2⟩ := u_known (C := RX2) (T := TX2) (N := 0) (n := 0) hU inX2 (hU _ u_136)
  obtain ⟨c3, i3, h3⟩ := u_known (C := RX3) (T := TX3) (N := 1) (n := 1) hU inX3 (hU _ u_190)
  obtain ⟨c4, i4, h4⟩ := u_known (C := RX4) (T := TX4) (N := 13) (n := 13) hU inX4 (hU _ u_31)
  obtain ⟨c5, i5, h5⟩ := u_known (C := RX5) (T := TX5) (N := 5) (n := 5) hU inX5 (hU _ u_109)
  obtain ⟨c6, i6, h6⟩ := u_known (C := RX6) (T := TX6) (N := 0) (n := 0) hU inX6 (hU _ u_122)
  obtain ⟨c7, i7, h7⟩ := u_known (C := RX7) (T := TX7) (N := 5) (n := 5) hU inX7 (hU _ u_214)
  obtain ⟨c8, i8, h8⟩ := u_known (C := RX8) (T := TX8) (N := 0) (n := 0) hU inX8 (hU _ u_129)
  obtain ⟨c9, i9, h9⟩ := u_known (C := RX9) (T := TX9) (N := 0) (n := 0) hU inX9 (hU _ u_115)
  obtain ⟨c10, i10, h10⟩ := u_known (C := RX10) (T := TX10) (N := 4) (n := 4) hU inX10 (hU _ u_167)
  obtain ⟨c11, i11, h11⟩ := u_known (C := RX11) (T := TX11) (N := 15) (n := 15) hU inX11 (hU _ u_23)
  obtain ⟨c12, i12, h12⟩ := u_known (C := RX12) (T := TX12) (N := 24) (n := 24) hU inX12 (hU _ u_793)
  refine ⟨(fun k => if k = 0 then c0 else if k = 1 then c1 else if k = 2 then c2 else if k = 3 then c3 else if k = 4 then c4 else if k = 5 then c5 else if k = 6 then c6 else if k = 7 then c7 else if k = 8 then c8 else if k = 9 then c9 else if k = 10 then c10 else if k = 11 then c11 else c12, fun k => if k = 0 then i0 else if k = 1 then i1 else if k = 2 then i2 else if k = 3 then i3 else if k = 4 then i4 else if k = 5 then i5 else if k = 6 then i6 else if k = 7 then i7 else if k = 8 then i8 else if k = 9 then i9 else if k = 10 then i10 else if k = 11 then i11 else i12), fun k q hq => ?_⟩
  match k, hq with
  | 0, hq => cases hq; exact h0
  | 1, hq => cases hq; exact h1
  | 2, hq => cases hq; exact h2
  | 3, hq => cases hq; exact h3
  | 4, hq => cases hq; exact h4
  | 5, hq => cases hq; exact h5
  | 6, hq => cases hq; exact h6
  | 7, hq => cases hq; exact h7
  | 8, hq => cases hq; exact h8
  | 9, hq => cases hq; exact h9
  | 10, hq => cases hq; exact h10
  | 11, hq => cases hq; exact h11
  | 12, hq => cases hq; exact h12
  | k + 13, hq => simp at hq
