section KINDC
variable {d b : Nat} {I : Nat → Nat → Int32} {L : Nat → Nat → Int64}
def zop1 (p s g : Int32) : Int32 := if g = 3 then zop0 p s g else if g = 1 then (p + s) / 2 else p + s
def zop3 (p s g : Int32) : Int32 := if zop0 p s g < 4 then zop0 p s g else 4
def zop4 (p s g r : Int32) : Int32 := if zrem r 2 = 0 then zop0 p s g else if g = 3 then 0 else p + s
theorem kX6_ownPace_a (p s g r : Int32) : zCall (d + 1) mX6_ownPace [.ref 39, .int p, .int s, .int g, .int r] (zh b I L) (some (.int (zop1 p s g)), zh b I L) :=
  zCall.of okX6_ownPace (Nat.le_of_ble_eq_true rfl) ⟨Nat.le_refl _, Nat.le_refl _⟩ (fun G => tX6_ownPace_a_0 zR0.w ⟨fun h => ⟨fun h2 => by simp [zop1, h, h2], fun h2 => by simp [zop1, h2]⟩, fun h => by simp [zop1, h]⟩)
theorem kX6_ownPace_b (p s g r : Int32) : zCall (d + 1) mX6_ownPace [.ref 40, .int p, .int s, .int g, .int r] (zh b I L) (some (.int (zop1 p s g)), zh b I L) :=
  zCall.of okX6_ownPace (Nat.le_of_ble_eq_true rfl) ⟨Nat.le_refl _, Nat.le_refl _⟩ (fun G => tX6_ownPace_b_0 zR0.w ⟨fun h => ⟨fun h2 => by simp [zop1, h, h2], fun h2 => by simp [zop1, h2]⟩, fun h => by simp [zop1, h]⟩)
theorem kX2_ownPace (p s g r : Int32) : zCall (d + 1) mX2_ownPace [.ref 41, .int p, .int s, .int g, .int r] (zh b I L) (some (.int (zop3 p s g)), zh b I L) :=
  zCall.of okX2_ownPace (Nat.le_of_ble_eq_true rfl) ⟨Nat.le_refl _, Nat.le_refl _⟩ (fun G => tX2_ownPace_0 zR0.w rfl)
theorem kX0_ownPace (p s g r : Int32) : zCall (d + 1) mX0_ownPace [.ref 42, .int p, .int s, .int g, .int r] (zh b I L) (some (.int (zop4 p s g r)), zh b I L) :=
  zCall.of okX0_ownPace (Nat.le_of_ble_eq_true rfl) ⟨Nat.le_refl _, Nat.le_refl _⟩ (fun G => tX0_ownPace_0 zR0.w ⟨fun h => ⟨fun h2 => by simp [zop4, h, h2], fun h2 => by simp [zop4, h, h2]⟩, fun h => by simp [zop4, h]⟩)
theorem kX8_harmIn (g p np : Int32) : zCall (d + 1) mX8_harmIn [.ref 40, .int g, .int p, .int np] (zh b I L) (some (.int (zhm0 (zfelt g) p np + 1)), zh b I L) :=
  zCall.of okX8_harmIn (Nat.le_of_ble_eq_true rfl) ⟨Nat.le_refl _, Nat.le_refl _⟩ (fun G => tX8_harmIn_0 zR0.w rfl)
def ztw (kk : Nat) (g np : Int32) : Int32 := (30 - np) + (if g = 2 ∧ kk ≠ 2 then 5 else 0)
theorem z5 {k : Nat} (h : k < 5) : k = 0 ∨ k = 1 ∨ k = 2 ∨ k = 3 ∨ k = 4 := by omega
theorem kX9_timeIn {k : Nat} (hk : k < 5) (g np : Int32) : zCall (d + 1) mX9_timeIn [.ref (38 + k), .int g, .int np] (zh b I L) (some (.int (ztw k g np)), zh b I L) := by
  rcases z5 hk with rfl | rfl | rfl | rfl | rfl
  · exact zCall.of okX9_timeIn (Nat.le_of_ble_eq_true rfl) ⟨Nat.le_refl _, Nat.le_refl _⟩ (fun G => tX9_timeIn_k0_0 zR0.w ⟨fun h => by simp [ztw, h], fun h => by simp [ztw, h]⟩)
  · exact zCall.of okX9_timeIn (Nat.le_of_ble_eq_true rfl) ⟨Nat.le_refl _, Nat.le_refl _⟩ (fun G => tX9_timeIn_k1_0 zR0.w ⟨fun h => by simp [ztw, h], fun h => by simp [ztw, h]⟩)
  · exact zCall.of okX9_timeIn (Nat.le_of_ble_eq_true rfl) ⟨Nat.le_refl _, Nat.le_refl _⟩ (fun G => tX9_timeIn_k2_0 zR0.w ⟨fun h => by simp [ztw], fun h => by simp [ztw]⟩)
  · exact zCall.of okX9_timeIn (Nat.le_of_ble_eq_true rfl) ⟨Nat.le_refl _, Nat.le_refl _⟩ (fun G => tX9_timeIn_k3_0 zR0.w ⟨fun h => by simp [ztw, h], fun h => by simp [ztw, h]⟩)
  · exact zCall.of okX9_timeIn (Nat.le_of_ble_eq_true rfl) ⟨Nat.le_refl _, Nat.le_refl _⟩ (fun G => tX9_timeIn_k4_0 zR0.w ⟨fun h => by simp [ztw, h], fun h => by simp [ztw, h]⟩)
end KINDC
