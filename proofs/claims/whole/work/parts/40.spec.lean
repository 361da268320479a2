/-! THE MATHEMATICAL STATE. A hill is a row w of numbers, laid as the reference lays it: 0 rows, 1 lanes, 2 runners, 3 hurts, 4 undos; slopes from 5, grounds from 53, kinds 101, lanes 107, starts 113, lines 119 (8 i + r), hurts 167, old slopes 175 -/
abbrev zW : Type := Nat → Nat
def wset (w : zW) (k v : Nat) : zW := fun j => if j = k then v else w j
def winv (w : zW) : Prop := ((1 ≤ w 0 ∧ w 0 ≤ 8) ∧ (1 ≤ w 1 ∧ w 1 ≤ 6) ∧ w 2 ≤ 6 ∧ w 3 ≤ 8 ∧ w 4 ≤ 6) ∧ (∀ c, c < 48 → w (5 + c) ≤ 9) ∧ (∀ c, c < 48 → w (53 + c) ≤ 3) ∧ (∀ i, i < w 2 → w (101 + i) ≤ 4 ∧ w (107 + i) < w 1 ∧ w (113 + i) ≤ 999 ∧ ∀ r, r < 8 → w (119 + 8 * i + r) ≤ 2) ∧ (∀ k, k < w 3 → w (167 + k) ≤ 3) ∧ (∀ k, k < 48 * w 4 → w (175 + k) ≤ 9)
/-- a hill of the class, its cells from 0 on, shows w -/
def hr (f : Nat → Nat → Int32) (w : zW) : Prop :=
  (f 0 0 = nI (w 0) ∧ f 0 1 = nI (w 1) ∧ f 0 2 = nI (w 2) ∧ f 0 3 = nI (w 3) ∧ f 0 4 = nI (w 4)) ∧
  (∀ c, c < 48 → f 1 c = nI (w (5 + c))) ∧ (∀ c, c < 48 → f 2 c = nI (w (53 + c))) ∧
  (∀ i, i < w 2 → f 3 i = nI (w (101 + i)) ∧ f 4 i = nI (w (107 + i)) ∧ f 5 i = nI (w (113 + i)) ∧ ∀ r, r < 8 → f 6 (8 * i + r) = nI (w (119 + 8 * i + r))) ∧
  (∀ k, k < w 3 → f 7 k = nI (w (167 + k))) ∧ (∀ k, k < 48 * w 4 → f 8 k = nI (w (175 + k)))
def zat (I : Nat → Nat → Int32) (q : Nat) : Nat → Nat → Int32 := fun k => I (q + k)
/-- an image of the class: kept, or never laid out -/
def him (k : Bool) (f : Nat → Nat → Int32) (w : zW) : Prop := (k = true → hr f w) ∧ (k = false → f 0 0 = 0)
/-- hill; text: how many, which; the fraction; refused; the two images -/
abbrev zσ : Type := zW × (Nat × zW) × (Int64 × Int64) × (Int32 × Int32 × Int32) × (Bool × zW) × (Bool × zW)
/-- THE CLASS shows σ -/
def zCl (b : Nat) (I : Nat → Nat → Int32) (L : Nat → Nat → Int64) (σ : zσ) : Prop :=
  zbl b ∧ hr (zat I b) σ.1 ∧ (I 53 1 = nI σ.2.1.1 ∧ ∀ k, k < σ.2.1.1 → I 54 k = nI (σ.2.1.2 k)) ∧ (L 0 10 = σ.2.2.1.1 ∧ L 0 11 = σ.2.2.1.2) ∧
  (I 0 12 = σ.2.2.2.1.1 ∧ I 0 13 = σ.2.2.2.1.2.1 ∧ I 0 14 = σ.2.2.2.1.2.2) ∧ him σ.2.2.2.2.1.1 (zat I 19) σ.2.2.2.2.1.2 ∧ him σ.2.2.2.2.2.1 (zat I 28) σ.2.2.2.2.2.2
/-- THE REFERENCE shows σ -/
def zRf (I : Nat → Nat → Int32) (L : Nat → Nat → Int64) (σ : zσ) : Prop :=
  (∀ k, k < 463 → I 57 k = nI (σ.1 k)) ∧ (I 56 5 = nI σ.2.1.1 ∧ ∀ k, k < σ.2.1.1 → I 61 k = nI (σ.2.1.2 k)) ∧ (L 56 6 = σ.2.2.1.1 ∧ L 56 7 = σ.2.2.1.2) ∧
  (I 62 0 = σ.2.2.2.1.1 ∧ I 62 1 = σ.2.2.2.1.2.1 ∧ I 62 2 = σ.2.2.2.1.2.2) ∧ (I 60 0 = zB σ.2.2.2.2.1.1 ∧ I 60 1 = zB σ.2.2.2.2.2.1) ∧
  (σ.2.2.2.2.1.1 = true → ∀ k, k < 463 → I 59 k = nI (σ.2.2.2.2.1.2 k)) ∧ (σ.2.2.2.2.2.1 = true → ∀ k, k < 463 → I 59 (463 + k) = nI (σ.2.2.2.2.2.2 k))
/-- what holds of σ -/
def zIv (σ : zσ) : Prop := winv σ.1 ∧ (σ.2.1.1 ≤ 250 ∧ ∀ k, k < σ.2.1.1 → σ.2.1.2 k < 256) ∧ (σ.2.2.2.2.1.1 = true → winv σ.2.2.2.2.1.2) ∧ (σ.2.2.2.2.2.1 = true → winv σ.2.2.2.2.2.2)
/-! frames -/
def zlo (I I' : Nat → Nat → Int32) : Prop := ∀ i, i < 56 → I' i = I i
def zhi (I I' : Nat → Nat → Int32) : Prop := ∀ i, 56 ≤ i → I' i = I i
def zloL (I I' : Nat → Nat → Int64) : Prop := ∀ i, i < 56 → I' i = I i
def zhiL (I I' : Nat → Nat → Int64) : Prop := ∀ i, 56 ≤ i → I' i = I i
theorem zhi.rf {I : Nat → Nat → Int32} : zhi I I := fun _ _ => rfl
theorem zhiL.rf {I : Nat → Nat → Int64} : zhiL I I := fun _ _ => rfl
theorem zlo.rf {I : Nat → Nat → Int32} : zlo I I := fun _ _ => rfl
theorem zloL.rf {I : Nat → Nat → Int64} : zloL I I := fun _ _ => rfl
theorem zhi.up {I I' : Nat → Nat → Int32} {i k : Nat} {x : Int32} (h : zhi I I') (hi : i < 56) : zhi I (zup I' i k x) := fun j hj => (zup_ne (by omega)).trans (h j hj)
theorem zlo.up {I I' : Nat → Nat → Int32} {i k : Nat} {x : Int32} (h : zlo I I') (hi : 56 ≤ i) : zlo I (zup I' i k x) := fun j hj => (zup_ne (by omega)).trans (h j hj)
theorem zhi.row {I I' : Nat → Nat → Int32} {i : Nat} {f : Nat → Int32} (h : zhi I I') (hi : i < 56) : zhi I (zrow I' i f) := fun j hj => (zrow_ne (by omega)).trans (h j hj)
theorem zhiL.up {I I' : Nat → Nat → Int64} {i k : Nat} {x : Int64} (h : zhiL I I') (hi : i < 56) : zhiL I (zupL I' i k x) := fun j hj => (zupL_ne (by omega)).trans (h j hj)
theorem zloL.up {I I' : Nat → Nat → Int64} {i k : Nat} {x : Int64} (h : zloL I I') (hi : 56 ≤ i) : zloL I (zupL I' i k x) := fun j hj => (zupL_ne (by omega)).trans (h j hj)
theorem zhi.trans {I I' I'' : Nat → Nat → Int32} (h : zhi I I') (h' : zhi I' I'') : zhi I I'' := fun j hj => (h' j hj).trans (h j hj)
theorem zlo.trans {I I' I'' : Nat → Nat → Int32} (h : zlo I I') (h' : zlo I' I'') : zlo I I'' := fun j hj => (h' j hj).trans (h j hj)
theorem hr.congr {f g : Nat → Nat → Int32} {w : zW} (h : hr f w) (he : ∀ k, k ≤ 8 → g k = f k) : hr g w := by
  obtain ⟨h0, h1, h2, h3, h4, h5⟩ := h
  unfold hr
  rw [he 0 (by omega), he 1 (by omega), he 2 (by omega), he 3 (by omega), he 4 (by omega), he 5 (by omega), he 6 (by omega), he 7 (by omega), he 8 (by omega)]
  exact ⟨h0, h1, h2, h3, h4, h5⟩
theorem him.congr {k : Bool} {f g : Nat → Nat → Int32} {w : zW} (h : him k f w) (he : ∀ k, k ≤ 8 → g k = f k) : him k g w := ⟨fun q => (h.1 q).congr he, fun q => by rw [he 0 (by omega)]; exact h.2 q⟩
theorem zCl.keep {b : Nat} {I I' : Nat → Nat → Int32} {L L' : Nat → Nat → Int64} {σ : zσ} (h : zCl b I L σ) (hI : zlo I I') (hL : zloL L L') : zCl b I' L' σ := by
  obtain ⟨h1, h2, h3, h4, h5, h6, h7⟩ := h
  have hb : b ≤ 10 := by rcases h1 with rfl | rfl <;> omega
  refine ⟨h1, h2.congr (fun k hk => hI (b + k) (by omega)), ?_, ?_, ?_, h6.congr (fun k hk => hI (19 + k) (by omega)), h7.congr (fun k hk => hI (28 + k) (by omega))⟩
  · rw [hI 53 (by omega), hI 54 (by omega)]; exact h3
  · rw [hL 0 (by omega)]; exact h4
  · rw [hI 0 (by omega)]; exact h5
theorem zRf.keep {I I' : Nat → Nat → Int32} {L L' : Nat → Nat → Int64} {σ : zσ} (h : zRf I L σ) (hI : zhi I I') (hL : zhiL L L') : zRf I' L' σ := by
  unfold zRf
  rw [hI 57 (by omega), hI 56 (by omega), hI 61 (by omega), hL 56 (by omega), hI 62 (by omega), hI 60 (by omega), hI 59 (by omega)]
  exact h
/-- an answer is of its method's type -/
def zVt (mc : zM) (r : Value) : Prop := (mc.2.2.2 = some .int ∧ ∃ x : Int32, r = .int x) ∨ (mc.2.2.2 = some .long ∧ ∃ x : Int64, r = .long x)
/-! THE PAIR: a call of the class, then the same of the reference: one answer, and both show the new state -/
def zPair (mc mr : zM) (av : List Value) : Prop := ∀ (d b : Nat) (I : Nat → Nat → Int32) (L : Nat → Nat → Int64) (σ : zσ), zCl b I L σ → zRf I L σ → zIv σ →
  ∃ (r : Value) (b' : Nat) (I1 : Nat → Nat → Int32) (L1 : Nat → Nat → Int64) (I2 : Nat → Nat → Int32) (L2 : Nat → Nat → Int64) (σ' : zσ),
    zCall (d + 40) mc (.ref 0 :: av) (zh b I L) (some r, zh b' I1 L1) ∧ zCall (d + 40) mr (.ref 56 :: av) (zh b' I1 L1) (some r, zh b' I2 L2) ∧ zCl b' I2 L2 σ' ∧ zRf I2 L2 σ' ∧ zIv σ' ∧ zVt mc r
/-- a side's step: from any state that shows σ it answers r and shows σ' -/
def zSC (mc : zM) (av : List Value) (σ : zσ) (r : Value) (σ' : zσ) : Prop := ∀ (d b : Nat) (I : Nat → Nat → Int32) (L : Nat → Nat → Int64), zCl b I L σ →
  ∃ (b' : Nat) (I1 : Nat → Nat → Int32) (L1 : Nat → Nat → Int64), zCall (d + 40) mc (.ref 0 :: av) (zh b I L) (some r, zh b' I1 L1) ∧ zCl b' I1 L1 σ' ∧ zhi I I1 ∧ zhiL L L1
def zSR (mr : zM) (av : List Value) (σ : zσ) (r : Value) (σ' : zσ) : Prop := ∀ (d b : Nat) (I : Nat → Nat → Int32) (L : Nat → Nat → Int64), zRf I L σ →
  ∃ (I1 : Nat → Nat → Int32) (L1 : Nat → Nat → Int64), zCall (d + 40) mr (.ref 56 :: av) (zh b I L) (some r, zh b I1 L1) ∧ zRf I1 L1 σ' ∧ zlo I I1 ∧ zloL L L1
theorem zPair.of {mc mr : zM} {av : List Value} (h : ∀ σ : zσ, zIv σ → ∃ (r : Value) (σ' : zσ), zSC mc av σ r σ' ∧ zSR mr av σ r σ' ∧ zIv σ' ∧ zVt mc r) : zPair mc mr av := by
  intro d b I L σ hc hr hi
  obtain ⟨r, σ', h1, h2, h3, h4⟩ := h σ hi
  obtain ⟨b', I1, L1, c1, c2, c3, c4⟩ := h1 d b I L hc
  obtain ⟨I2, L2, e1, e2, e3, e4⟩ := h2 d b' I1 L1 (hr.keep c3 c4)
  exact ⟨r, b', I1, L1, I2, L2, σ', c1, e1, c2.keep e3 e4, e2, h3, h4⟩
/-! numbers -/
theorem zx_nI {n : Nat} (h : n < 2 ^ 31) : zx (nI n) = n := nI_clamp h
/-- x is a number from lo to hi -/
def zin (x : Int32) (lo hi : Nat) : Prop := (lo : Int) ≤ x.toInt ∧ x.toInt ≤ (hi : Int)
theorem zin.nat {x : Int32} {lo hi : Nat} (h : zin x lo hi) (hh : hi < 2 ^ 31) : ∃ k : Nat, lo ≤ k ∧ k ≤ hi ∧ x = nI k := by
  obtain ⟨h1, h2⟩ := h
  refine ⟨x.toInt.toNat, by omega, by omega, ?_⟩
  apply Int32.toInt_inj.mp
  rw [nI_toInt (by omega)]
  omega
theorem zin_c {x : Int32} {lo hi : Nat} (h1 : lo < 2 ^ 31) (h2 : hi < 2 ^ 31) : (nI lo ≤ x ∧ x ≤ nI hi) ↔ zin x lo hi := by
  unfold zin
  rw [Int32.le_iff_toInt_le, Int32.le_iff_toInt_le, nI_toInt h1, nI_toInt h2]
theorem nIm_toInt {n : Nat} (h : n < 2 ^ 30) : (nI n - 1).toInt = (n : Int) - 1 := pk_sub_toInt (b := 1) h (by decide)
/-- x is one of n -/
def zof (x : Int32) (n : Nat) : Prop := 0 ≤ x.toInt ∧ x.toInt < (n : Int)
theorem zof.nat {x : Int32} {n : Nat} (h : zof x n) (hn : n < 2 ^ 31) : ∃ k : Nat, k < n ∧ x = nI k := by
  obtain ⟨h1, h2⟩ := h
  refine ⟨x.toInt.toNat, by omega, ?_⟩
  apply Int32.toInt_inj.mp
  rw [nI_toInt (by omega)]
  omega
theorem zof_c {x : Int32} {n : Nat} (h : n < 2 ^ 30) : (0 ≤ x ∧ x ≤ nI n - 1) ↔ zof x n := by
  unfold zof
  rw [Int32.le_iff_toInt_le, Int32.le_iff_toInt_le, nIm_toInt h, show (0 : Int32).toInt = 0 from rfl]
  omega
theorem zof_r {x : Int32} {n : Nat} (h : n < 2 ^ 30) : (0 ≤ x.toInt64 ∧ x.toInt64 ≤ (nI n - 1).toInt64) ↔ zof x n := by
  unfold zof
  rw [Int64.le_iff_toInt_le, Int64.le_iff_toInt_le, Int32.toInt_toInt64, Int32.toInt_toInt64, nIm_toInt h, show (0 : Int64).toInt = 0 from rfl]
  omega
theorem zin_r {x : Int32} {lo hi : Nat} (h1 : lo < 2 ^ 31) (h2 : hi < 2 ^ 31) : (lN lo ≤ x.toInt64 ∧ x.toInt64 ≤ lN hi) ↔ zin x lo hi := by
  unfold zin
  rw [Int64.le_iff_toInt_le, Int64.le_iff_toInt_le, Int32.toInt_toInt64, lN_toInt h1, lN_toInt h2]
theorem zin_r2 {x : Int32} {lo hi : Nat} (h1 : lo < 2 ^ 31) (h2 : hi < 2 ^ 31) : (lN lo ≤ x.toInt64 ∧ x.toInt64 ≤ (nI hi).toInt64) ↔ zin x lo hi := by
  unfold zin
  rw [Int64.le_iff_toInt_le, Int64.le_iff_toInt_le, Int32.toInt_toInt64, Int32.toInt_toInt64, lN_toInt h1, nI_toInt h2]
theorem zv_in {n N : Nat} (h : n < N) (hN : N < 2 ^ 31) : vp_in (nI n) N := vp_in_nI h hN
