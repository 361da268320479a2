section LEAF2
variable {d b : Nat} {I : Nat → Nat → Int32} {L : Nat → Nat → Int64}
theorem kX4_hasRow {q : Nat} (hq : zhl q) (r : Int32) : zCall (d + 1) mX4_hasRow [.ref q, .int r] (zh b I L) (some (.int (zb (0 ≤ r ∧ r ≤ I q 0 - 1))), zh b I L) :=
  zCall.of okX4_hasRow (Nat.le_of_ble_eq_true rfl) ⟨Nat.le_refl _, Nat.le_refl _⟩ (fun G => tX4_hasRow_0 hq zR0.w rfl)
theorem kX4_hasRunner {q : Nat} (hq : zhl q) (r : Int32) : zCall (d + 1) mX4_hasRunner [.ref q, .int r] (zh b I L) (some (.int (zb (0 ≤ r ∧ r ≤ I q 2 - 1))), zh b I L) :=
  zCall.of okX4_hasRunner (Nat.le_of_ble_eq_true rfl) ⟨Nat.le_refl _, Nat.le_refl _⟩ (fun G => tX4_hasRunner_0 hq zR0.w rfl)
theorem kX12_isRunner (r : Int32) : zCall (d + 1) mX12_isRunner [.ref 56, .int r] (zh b I L) (some (.int (zb (0 ≤ r.toInt64 ∧ r.toInt64 ≤ (I 57 2 - 1).toInt64))), zh b I L) :=
  zCall.of okX12_isRunner (Nat.le_of_ble_eq_true rfl) ⟨Nat.le_refl _, Nat.le_refl _⟩ (fun G => tX12_isRunner_0 zR0.w rfl)
theorem kX12_isRow (r : Int32) : zCall (d + 1) mX12_isRow [.ref 56, .int r] (zh b I L) (some (.int (zb (0 ≤ r.toInt64 ∧ r.toInt64 ≤ (I 57 0 - 1).toInt64))), zh b I L) :=
  zCall.of okX12_isRow (Nat.le_of_ble_eq_true rfl) ⟨Nat.le_refl _, Nat.le_refl _⟩ (fun G => tX12_isRow_0 zR0.w rfl)
theorem kX12_isLane (r : Int32) : zCall (d + 1) mX12_isLane [.ref 56, .int r] (zh b I L) (some (.int (zb (0 ≤ r.toInt64 ∧ r.toInt64 ≤ (I 57 1 - 1).toInt64))), zh b I L) :=
  zCall.of okX12_isLane (Nat.le_of_ble_eq_true rfl) ⟨Nat.le_refl _, Nat.le_refl _⟩ (fun G => tX12_isLane_0 zR0.w rfl)
end LEAF2
