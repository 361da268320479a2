/-! THE START: what both constructors leave, as a mathematical state -/
def zI0 : Nat → Nat → Int32 := fun _ _ => 0
def zL0 : Nat → Nat → Int64 := fun _ _ => 0
def zI1 : Nat → Nat → Int32 := zcln (zlay zI0 1 6 5) 57 (fun k => nI (wcl 6 5 k)) 463
def zL9 : Nat → Nat → Int64 := zupL (zupL (zupL zL0 0 10 0) 0 11 1) 56 7 1
def zσ0 : zσ := (wcl 6 5, (0, fun _ => 0), (0, 1), (0, 0, 0), (false, fun _ => 0), (false, fun _ => 0))
theorem zI1_lo {i : Nat} (h : i ≠ 57) : zI1 i = zlay zI0 1 6 5 i := zcln_ne h
theorem zI1_z {i : Nat} (h : i ≠ 57) (h2 : i < 1 ∨ 1 + 8 < i) : zI1 i = fun _ => 0 := by
  rw [zI1_lo h, zlay_ne h2]
  rfl
theorem zs_cl : zCl 1 zI1 zL9 zσ0 := by
  refine ⟨Or.inl rfl, (hr_lay (I := zI0) (q := 1) (h := 6) (w := 5)).congr (fun k hk => zI1_lo (i := 1 + k) (by omega)), ⟨?_, fun k hk => absurd hk (Nat.not_lt_zero k)⟩, ⟨?_, ?_⟩, ?_, ⟨fun q => absurd q (by decide), fun _ => ?_⟩, ⟨fun q => absurd q (by decide), fun _ => ?_⟩⟩
  · rw [zI1_z (i := 53) (by decide) (by decide)]
    rfl
  · simp [zL9, zupL, zL0, zσ0]
  · simp [zL9, zupL, zL0, zσ0]
  · rw [zI1_z (i := 0) (by decide) (by decide)]
    exact ⟨rfl, rfl, rfl⟩
  · show zI1 19 0 = 0
    rw [zI1_z (i := 19) (by decide) (by decide)]
  · show zI1 28 0 = 0
    rw [zI1_z (i := 28) (by decide) (by decide)]
theorem zs_rf : zRf zI1 zL9 zσ0 := by
  refine ⟨fun k hk => ?_, ⟨?_, fun k hk => absurd hk (Nat.not_lt_zero k)⟩, ⟨?_, ?_⟩, ?_, ?_, fun q => absurd q (by decide), fun q => absurd q (by decide)⟩
  · show zcln (zlay zI0 1 6 5) 57 (fun k => nI (wcl 6 5 k)) 463 57 k = nI (wcl 6 5 k)
    simp [zcln, hk]
  · rw [zI1_z (i := 56) (by decide) (by decide)]
    rfl
  · simp [zL9, zupL, zL0, zσ0]
  · simp [zL9, zupL, zL0, zσ0]
  · rw [zI1_z (i := 62) (by decide) (by decide)]
    exact ⟨rfl, rfl, rfl⟩
  · rw [zI1_z (i := 60) (by decide) (by decide)]
    exact ⟨rfl, rfl⟩
theorem zs_iv : zIv zσ0 := ⟨winv_cl ⟨by decide, by decide⟩ ⟨by decide, by decide⟩, ⟨Nat.zero_le _, fun k hk => absurd hk (Nat.not_lt_zero k)⟩, fun q => absurd q (by decide), fun q => absurd q (by decide)⟩
theorem zVt.int {mc : zM} {r : Value} (h : zVt mc r) (hm : mc.2.2.2 = some .int) : ∃ v : Int32, r = .int v := by
  rcases h with ⟨-, q⟩ | ⟨q, -⟩
  · exact q
  · rw [hm] at q
    cases q
theorem zVt.long {mc : zM} {r : Value} (h : zVt mc r) (hm : mc.2.2.2 = some .long) : ∃ v : Int64, r = .long v := by
  rcases h with ⟨q, -⟩ | ⟨-, q⟩
  · rw [hm] at q
    cases q
  · exact q
/-- the law, from a place in its loop, with x as its i, comes to its end with 1 -/
def zLz (G : zG) (d pc : Nat) (x : Int32) (b : Nat) (I : Nat → Nat → Int32) (L : Nat → Nat → Int64) : Prop := ∃ (bf : Nat) (If : Nat → Nat → Int32) (Lf : Nat → Nat → Int64), zA G (d + 41) mL_law pc [some (.ref 2000), some (.ref 0), some (.ref 56), some (.int x)] [] (zh b I L) (some (.int 1), zh bf If Lf)
theorem zcmp_self (v : Int64) : lg_cmp v v = 0 := by simp [lg_cmp]
