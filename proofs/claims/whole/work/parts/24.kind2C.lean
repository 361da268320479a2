section KINDC2
variable {d b : Nat} {I : Nat → Nat → Int32} {L : Nat → Nat → Int64}
def zop2 (p s g : Int32) : Int32 := zop1 p s (zfelt g) + 2
theorem kX8_ownPace (p s g r : Int32) : zCall (d + 2) mX8_ownPace [.ref 40, .int p, .int s, .int g, .int r] (zh b I L) (some (.int (zop2 p s g)), zh b I L) :=
  zCall.of okX8_ownPace (Nat.le_of_ble_eq_true rfl) ⟨Nat.le_refl _, Nat.le_refl _⟩ (fun G => tX8_ownPace_0 zR0.w rfl)
end KINDC2
