section PACEC
variable {d b : Nat} {I : Nat → Nat → Int32} {L : Nat → Nat → Int64}
/-- the reference's pace and harm -/
def zpo (of p s g r : Int32) : Int32 := if of = 2 then zcap ((if g = 1 then (p + s) / 2 else p + s) + 2) else if g = 3 then 0 else if of = 1 then zcap (if g = 1 then (p + s) / 2 else p + s) else if of = 4 ∧ zrem r 2 = 1 then zcap (p + s) else if of = 3 ∧ ¬ zcap (p + s / 2) ≤ 4 then 4 else zcap (p + s / 2)
def zho (of p np g : Int32) : Int32 := ((if of = 2 then 1 else 0) + (if g = 1 ∧ ¬ np < 10 then 2 else 0)) + (if g = 3 ∧ ¬ p < 6 ∧ ¬ of = 2 then 3 else 0)
theorem kX12_paceOf (of p s g r : Int32) : zCall (d + 1) mX12_paceOf [.int of, .int p, .int s, .int g, .int r] (zh b I L) (some (.int (zpo of p s g r)), zh b I L) := by
  refine zCall.of okX12_paceOf (Nat.le_of_ble_eq_true rfl) ⟨Nat.le_refl _, Nat.le_refl _⟩ (fun G => tX12_paceOf_0 zR0.w ?_)
  repeat' first | apply And.intro | intro _
  all_goals simp_all [zpo]
theorem kX12_harmOf (of p np g : Int32) : zCall d mX12_harmOf [.int of, .int p, .int np, .int g] (zh b I L) (some (.int (zho of p np g)), zh b I L) := by
  refine zCall.of okX12_harmOf (Nat.le_of_ble_eq_true rfl) ⟨Nat.le_refl _, Nat.le_refl _⟩ (fun G => tX12_harmOf_0 ?_)
  repeat' first | apply And.intro | intro _
  all_goals simp_all [zho]
end PACEC
