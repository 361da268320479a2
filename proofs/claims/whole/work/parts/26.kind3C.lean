section KINDC3
variable {d b : Nat} {I : Nat → Nat → Int32} {L : Nat → Nat → Int64}
/-- a kind's own pace, its new pace, its harm -/
def zow (k : Nat) (p s g r : Int32) : Int32 := if k = 0 then zop0 p s g else if k = 1 then zop1 p s g else if k = 2 then zop2 p s g else if k = 3 then zop3 p s g else zop4 p s g r
def zpw (k : Nat) (p s g r : Int32) : Int32 := if zow k p s g r < 20 then zow k p s g r else 20
def zhw (k : Nat) (g p np : Int32) : Int32 := if k = 2 then zhm0 (zfelt g) p np + 1 else zhm0 g p np
theorem kX9_newPace {k : Nat} (hk : k < 5) (p s g r : Int32) : zCall (d + 3) mX9_newPace [.ref (38 + k), .int p, .int s, .int g, .int r] (zh b I L) (some (.int (zpw k p s g r)), zh b I L) := by
  rcases z5 hk with rfl | rfl | rfl | rfl | rfl
  · exact zCall.of okX9_newPace (Nat.le_of_ble_eq_true rfl) ⟨Nat.le_refl _, Nat.le_refl _⟩ (fun G => tX9_newPace_k0_0 zR0.w rfl)
  · exact zCall.of okX9_newPace (Nat.le_of_ble_eq_true rfl) ⟨Nat.le_refl _, Nat.le_refl _⟩ (fun G => tX9_newPace_k1_0 zR0.w rfl)
  · exact zCall.of okX9_newPace (Nat.le_of_ble_eq_true rfl) ⟨Nat.le_refl _, Nat.le_refl _⟩ (fun G => tX9_newPace_k2_0 zR0.w rfl)
  · exact zCall.of okX9_newPace (Nat.le_of_ble_eq_true rfl) ⟨Nat.le_refl _, Nat.le_refl _⟩ (fun G => tX9_newPace_k3_0 zR0.w rfl)
  · exact zCall.of okX9_newPace (Nat.le_of_ble_eq_true rfl) ⟨Nat.le_refl _, Nat.le_refl _⟩ (fun G => tX9_newPace_k4_0 zR0.w rfl)
def zmH (k : Nat) : zM := if k = 2 then mX8_harmIn else mX9_harmIn
theorem kz_harmIn {k : Nat} (hk : k < 5) (g p np : Int32) : zCall (d + 1) (zmH k) [.ref (38 + k), .int g, .int p, .int np] (zh b I L) (some (.int (zhw k g p np)), zh b I L) := by
  rcases z5 hk with rfl | rfl | rfl | rfl | rfl
  · exact kX9_harmIn _ _ _ _
  · exact kX9_harmIn _ _ _ _
  · exact kX8_harmIn _ _ _
  · exact kX9_harmIn _ _ _ _
  · exact kX9_harmIn _ _ _ _
end KINDC3
section KINDR
variable {G : zG} {d : Nat} {M : zM} {pc : Nat} {ls : List (Option Value)} {st : List Value} {h : zH} {R : zR}
theorem zk_X10_newPace {k : Nat} (hM : M.1.cls = RX10) (hk : k < 5) {av stk : List Value} {R1 : zR} (hd : decode M.2.1 pc = .ok (.invokevirtual 61, 3)) (hn : zar mX9_newPace av.length) (hstk : stk = av.reverse ++ .ref (38 + k) :: st) (hst : (st.map fun v => v.category).sum ≤ 8) {b : Nat} {I : Nat → Nat → Int32} {L : Nat → Nat → Int64} (hc : zCall d mX9_newPace (.ref (38 + k) :: av) (zh b I L) R1) (hR : R1.2.1.1 ≤ R.2.1.1 ∧ R1.2.1.2.1 ≤ R.2.1.2.1) (K : zA G (d + 1) M (pc + 3) ls (R1.1.toList ++ st) R1.2 R) : zA G (d + 1) M pc ls stk (zh b I L) R := by
  have hl : Cond.methodLink M.1.cls 61 yX9_newPace ∈ zU := by rw [hM]; exact u_478
  rcases z5 hk with rfl | rfl | rfl | rfl | rfl
  · exact zi_callU (h := zh b I L) (C := RX9) (owner := "CheeseHill$Upright") (x := yX9_newPace) (N := mX9_newPace) (N0 := mX9_newPace) hd okX9_newPace hl u_481 u_480 u_479 u_479 u_486 rfl ⟨by decide, by decide⟩ zc9 rfl (Nat.le_of_ble_eq_true rfl) hn hstk hst hc hR K
  · exact zi_callU (h := zh b I L) (C := RX6) (owner := "CheeseHill$Upright") (x := yX9_newPace) (N := mX9_newPace) (N0 := mX9_newPace) hd okX9_newPace hl u_481 u_484 u_479 u_479 u_486 rfl ⟨by decide, by decide⟩ zc6 rfl (Nat.le_of_ble_eq_true rfl) hn hstk hst hc hR K
  · exact zi_callU (h := zh b I L) (C := RX8) (owner := "CheeseHill$Upright") (x := yX9_newPace) (N := mX9_newPace) (N0 := mX9_newPace) hd okX9_newPace hl u_481 u_485 u_479 u_479 u_486 rfl ⟨by decide, by decide⟩ zc8 rfl (Nat.le_of_ble_eq_true rfl) hn hstk hst hc hR K
  · exact zi_callU (h := zh b I L) (C := RX2) (owner := "CheeseHill$Upright") (x := yX9_newPace) (N := mX9_newPace) (N0 := mX9_newPace) hd okX9_newPace hl u_481 u_483 u_479 u_479 u_486 rfl ⟨by decide, by decide⟩ zc2 rfl (Nat.le_of_ble_eq_true rfl) hn hstk hst hc hR K
  · exact zi_callU (h := zh b I L) (C := RX0) (owner := "CheeseHill$Upright") (x := yX9_newPace) (N := mX9_newPace) (N0 := mX9_newPace) hd okX9_newPace hl u_481 u_482 u_479 u_479 u_486 rfl ⟨by decide, by decide⟩ zc0 rfl (Nat.le_of_ble_eq_true rfl) hn hstk hst hc hR K
theorem zk_X10_timeIn {k : Nat} (hM : M.1.cls = RX10) (hk : k < 5) {av stk : List Value} {R1 : zR} (hd : decode M.2.1 pc = .ok (.invokevirtual 74, 3)) (hn : zar mX9_timeIn av.length) (hstk : stk = av.reverse ++ .ref (38 + k) :: st) (hst : (st.map fun v => v.category).sum ≤ 8) {b : Nat} {I : Nat → Nat → Int32} {L : Nat → Nat → Int64} (hc : zCall d mX9_timeIn (.ref (38 + k) :: av) (zh b I L) R1) (hR : R1.2.1.1 ≤ R.2.1.1 ∧ R1.2.1.2.1 ≤ R.2.1.2.1) (K : zA G (d + 1) M (pc + 3) ls (R1.1.toList ++ st) R1.2 R) : zA G (d + 1) M pc ls stk (zh b I L) R := by
  have hl : Cond.methodLink M.1.cls 74 yX9_timeIn ∈ zU := by rw [hM]; exact u_532
  rcases z5 hk with rfl | rfl | rfl | rfl | rfl
  · exact zi_callU (h := zh b I L) (C := RX9) (owner := "CheeseHill$Upright") (x := yX9_timeIn) (N := mX9_timeIn) (N0 := mX9_timeIn) hd okX9_timeIn hl u_535 u_534 u_533 u_533 u_540 rfl ⟨by decide, by decide⟩ zc9 rfl (Nat.le_of_ble_eq_true rfl) hn hstk hst hc hR K
  · exact zi_callU (h := zh b I L) (C := RX6) (owner := "CheeseHill$Upright") (x := yX9_timeIn) (N := mX9_timeIn) (N0 := mX9_timeIn) hd okX9_timeIn hl u_535 u_538 u_533 u_533 u_540 rfl ⟨by decide, by decide⟩ zc6 rfl (Nat.le_of_ble_eq_true rfl) hn hstk hst hc hR K
  · exact zi_callU (h := zh b I L) (C := RX8) (owner := "CheeseHill$Upright") (x := yX9_timeIn) (N := mX9_timeIn) (N0 := mX9_timeIn) hd okX9_timeIn hl u_535 u_539 u_533 u_533 u_540 rfl ⟨by decide, by decide⟩ zc8 rfl (Nat.le_of_ble_eq_true rfl) hn hstk hst hc hR K
  · exact zi_callU (h := zh b I L) (C := RX2) (owner := "CheeseHill$Upright") (x := yX9_timeIn) (N := mX9_timeIn) (N0 := mX9_timeIn) hd okX9_timeIn hl u_535 u_537 u_533 u_533 u_540 rfl ⟨by decide, by decide⟩ zc2 rfl (Nat.le_of_ble_eq_true rfl) hn hstk hst hc hR K
  · exact zi_callU (h := zh b I L) (C := RX0) (owner := "CheeseHill$Upright") (x := yX9_timeIn) (N := mX9_timeIn) (N0 := mX9_timeIn) hd okX9_timeIn hl u_535 u_536 u_533 u_533 u_540 rfl ⟨by decide, by decide⟩ zc0 rfl (Nat.le_of_ble_eq_true rfl) hn hstk hst hc hR K
theorem zk_X10_harmIn {k : Nat} (hM : M.1.cls = RX10) (hk : k < 5) {av stk : List Value} {R1 : zR} (hd : decode M.2.1 pc = .ok (.invokevirtual 70, 3)) (hn : zar mX9_harmIn av.length) (hstk : stk = av.reverse ++ .ref (38 + k) :: st) (hst : (st.map fun v => v.category).sum ≤ 8) {b : Nat} {I : Nat → Nat → Int32} {L : Nat → Nat → Int64} (hc : zCall d (zmH k) (.ref (38 + k) :: av) (zh b I L) R1) (hR : R1.2.1.1 ≤ R.2.1.1 ∧ R1.2.1.2.1 ≤ R.2.1.2.1) (K : zA G (d + 1) M (pc + 3) ls (R1.1.toList ++ st) R1.2 R) : zA G (d + 1) M pc ls stk (zh b I L) R := by
  have hl : Cond.methodLink M.1.cls 70 yX9_harmIn ∈ zU := by rw [hM]; exact u_518
  rcases z5 hk with rfl | rfl | rfl | rfl | rfl
  · exact zi_callU (h := zh b I L) (C := RX9) (owner := "CheeseHill$Upright") (x := yX9_harmIn) (N := mX9_harmIn) (N0 := mX9_harmIn) hd okX9_harmIn hl u_521 u_520 u_519 u_519 u_531 rfl ⟨by decide, by decide⟩ zc9 rfl (Nat.le_of_ble_eq_true rfl) hn hstk hst hc hR K
  · exact zi_callU (h := zh b I L) (C := RX6) (owner := "CheeseHill$Upright") (x := yX9_harmIn) (N := mX9_harmIn) (N0 := mX9_harmIn) hd okX9_harmIn hl u_521 u_524 u_519 u_519 u_531 rfl ⟨by decide, by decide⟩ zc6 rfl (Nat.le_of_ble_eq_true rfl) hn hstk hst hc hR K
  · exact zi_callU (h := zh b I L) (C := RX8) (owner := "CheeseHill$Upright") (x := yX9_harmIn) (N := mX8_harmIn) (N0 := mX9_harmIn) hd okX8_harmIn hl u_521 u_525 u_526 u_519 u_531 rfl ⟨by decide, by decide⟩ zc8 rfl (Nat.le_of_ble_eq_true rfl) hn hstk hst hc hR K
  · exact zi_callU (h := zh b I L) (C := RX2) (owner := "CheeseHill$Upright") (x := yX9_harmIn) (N := mX9_harmIn) (N0 := mX9_harmIn) hd okX9_harmIn hl u_521 u_523 u_519 u_519 u_531 rfl ⟨by decide, by decide⟩ zc2 rfl (Nat.le_of_ble_eq_true rfl) hn hstk hst hc hR K
  · exact zi_callU (h := zh b I L) (C := RX0) (owner := "CheeseHill$Upright") (x := yX9_harmIn) (N := mX9_harmIn) (N0 := mX9_harmIn) hd okX9_harmIn hl u_521 u_522 u_519 u_519 u_531 rfl ⟨by decide, by decide⟩ zc0 rfl (Nat.le_of_ble_eq_true rfl) hn hstk hst hc hR K
theorem zk_X3_newPace {k : Nat} (hM : M.1.cls = RX3) (hk : k < 5) {av stk : List Value} {R1 : zR} (hd : decode M.2.1 pc = .ok (.invokevirtual 41, 3)) (hn : zar mX9_newPace av.length) (hstk : stk = av.reverse ++ .ref (38 + k) :: st) (hst : (st.map fun v => v.category).sum ≤ 8) {b : Nat} {I : Nat → Nat → Int32} {L : Nat → Nat → Int64} (hc : zCall d mX9_newPace (.ref (38 + k) :: av) (zh b I L) R1) (hR : R1.2.1.1 ≤ R.2.1.1 ∧ R1.2.1.2.1 ≤ R.2.1.2.1) (K : zA G (d + 1) M (pc + 3) ls (R1.1.toList ++ st) R1.2 R) : zA G (d + 1) M pc ls stk (zh b I L) R := by
  have hl : Cond.methodLink M.1.cls 41 yX9_newPace ∈ zU := by rw [hM]; exact u_585
  rcases z5 hk with rfl | rfl | rfl | rfl | rfl
  · exact zi_callU (h := zh b I L) (C := RX9) (owner := "CheeseHill$Upright") (x := yX9_newPace) (N := mX9_newPace) (N0 := mX9_newPace) hd okX9_newPace hl u_481 u_480 u_479 u_479 u_486 rfl ⟨by decide, by decide⟩ zc9 rfl (Nat.le_of_ble_eq_true rfl) hn hstk hst hc hR K
  · exact zi_callU (h := zh b I L) (C := RX6) (owner := "CheeseHill$Upright") (x := yX9_newPace) (N := mX9_newPace) (N0 := mX9_newPace) hd okX9_newPace hl u_481 u_484 u_479 u_479 u_486 rfl ⟨by decide, by decide⟩ zc6 rfl (Nat.le_of_ble_eq_true rfl) hn hstk hst hc hR K
  · exact zi_callU (h := zh b I L) (C := RX8) (owner := "CheeseHill$Upright") (x := yX9_newPace) (N := mX9_newPace) (N0 := mX9_newPace) hd okX9_newPace hl u_481 u_485 u_479 u_479 u_486 rfl ⟨by decide, by decide⟩ zc8 rfl (Nat.le_of_ble_eq_true rfl) hn hstk hst hc hR K
  · exact zi_callU (h := zh b I L) (C := RX2) (owner := "CheeseHill$Upright") (x := yX9_newPace) (N := mX9_newPace) (N0 := mX9_newPace) hd okX9_newPace hl u_481 u_483 u_479 u_479 u_486 rfl ⟨by decide, by decide⟩ zc2 rfl (Nat.le_of_ble_eq_true rfl) hn hstk hst hc hR K
  · exact zi_callU (h := zh b I L) (C := RX0) (owner := "CheeseHill$Upright") (x := yX9_newPace) (N := mX9_newPace) (N0 := mX9_newPace) hd okX9_newPace hl u_481 u_482 u_479 u_479 u_486 rfl ⟨by decide, by decide⟩ zc0 rfl (Nat.le_of_ble_eq_true rfl) hn hstk hst hc hR K
theorem zk_X3_timeIn {k : Nat} (hM : M.1.cls = RX3) (hk : k < 5) {av stk : List Value} {R1 : zR} (hd : decode M.2.1 pc = .ok (.invokevirtual 53, 3)) (hn : zar mX9_timeIn av.length) (hstk : stk = av.reverse ++ .ref (38 + k) :: st) (hst : (st.map fun v => v.category).sum ≤ 8) {b : Nat} {I : Nat → Nat → Int32} {L : Nat → Nat → Int64} (hc : zCall d mX9_timeIn (.ref (38 + k) :: av) (zh b I L) R1) (hR : R1.2.1.1 ≤ R.2.1.1 ∧ R1.2.1.2.1 ≤ R.2.1.2.1) (K : zA G (d + 1) M (pc + 3) ls (R1.1.toList ++ st) R1.2 R) : zA G (d + 1) M pc ls stk (zh b I L) R := by
  have hl : Cond.methodLink M.1.cls 53 yX9_timeIn ∈ zU := by rw [hM]; exact u_591
  rcases z5 hk with rfl | rfl | rfl | rfl | rfl
  · exact zi_callU (h := zh b I L) (C := RX9) (owner := "CheeseHill$Upright") (x := yX9_timeIn) (N := mX9_timeIn) (N0 := mX9_timeIn) hd okX9_timeIn hl u_535 u_534 u_533 u_533 u_540 rfl ⟨by decide, by decide⟩ zc9 rfl (Nat.le_of_ble_eq_true rfl) hn hstk hst hc hR K
  · exact zi_callU (h := zh b I L) (C := RX6) (owner := "CheeseHill$Upright") (x := yX9_timeIn) (N := mX9_timeIn) (N0 := mX9_timeIn) hd okX9_timeIn hl u_535 u_538 u_533 u_533 u_540 rfl ⟨by decide, by decide⟩ zc6 rfl (Nat.le_of_ble_eq_true rfl) hn hstk hst hc hR K
  · exact zi_callU (h := zh b I L) (C := RX8) (owner := "CheeseHill$Upright") (x := yX9_timeIn) (N := mX9_timeIn) (N0 := mX9_timeIn) hd okX9_timeIn hl u_535 u_539 u_533 u_533 u_540 rfl ⟨by decide, by decide⟩ zc8 rfl (Nat.le_of_ble_eq_true rfl) hn hstk hst hc hR K
  · exact zi_callU (h := zh b I L) (C := RX2) (owner := "CheeseHill$Upright") (x := yX9_timeIn) (N := mX9_timeIn) (N0 := mX9_timeIn) hd okX9_timeIn hl u_535 u_537 u_533 u_533 u_540 rfl ⟨by decide, by decide⟩ zc2 rfl (Nat.le_of_ble_eq_true rfl) hn hstk hst hc hR K
  · exact zi_callU (h := zh b I L) (C := RX0) (owner := "CheeseHill$Upright") (x := yX9_timeIn) (N := mX9_timeIn) (N0 := mX9_timeIn) hd okX9_timeIn hl u_535 u_536 u_533 u_533 u_540 rfl ⟨by decide, by decide⟩ zc0 rfl (Nat.le_of_ble_eq_true rfl) hn hstk hst hc hR K
theorem zk_X3_harmIn {k : Nat} (hM : M.1.cls = RX3) (hk : k < 5) {av stk : List Value} {R1 : zR} (hd : decode M.2.1 pc = .ok (.invokevirtual 56, 3)) (hn : zar mX9_harmIn av.length) (hstk : stk = av.reverse ++ .ref (38 + k) :: st) (hst : (st.map fun v => v.category).sum ≤ 8) {b : Nat} {I : Nat → Nat → Int32} {L : Nat → Nat → Int64} (hc : zCall d (zmH k) (.ref (38 + k) :: av) (zh b I L) R1) (hR : R1.2.1.1 ≤ R.2.1.1 ∧ R1.2.1.2.1 ≤ R.2.1.2.1) (K : zA G (d + 1) M (pc + 3) ls (R1.1.toList ++ st) R1.2 R) : zA G (d + 1) M pc ls stk (zh b I L) R := by
  have hl : Cond.methodLink M.1.cls 56 yX9_harmIn ∈ zU := by rw [hM]; exact u_592
  rcases z5 hk with rfl | rfl | rfl | rfl | rfl
  · exact zi_callU (h := zh b I L) (C := RX9) (owner := "CheeseHill$Upright") (x := yX9_harmIn) (N := mX9_harmIn) (N0 := mX9_harmIn) hd okX9_harmIn hl u_521 u_520 u_519 u_519 u_531 rfl ⟨by decide, by decide⟩ zc9 rfl (Nat.le_of_ble_eq_true rfl) hn hstk hst hc hR K
  · exact zi_callU (h := zh b I L) (C := RX6) (owner := "CheeseHill$Upright") (x := yX9_harmIn) (N := mX9_harmIn) (N0 := mX9_harmIn) hd okX9_harmIn hl u_521 u_524 u_519 u_519 u_531 rfl ⟨by decide, by decide⟩ zc6 rfl (Nat.le_of_ble_eq_true rfl) hn hstk hst hc hR K
  · exact zi_callU (h := zh b I L) (C := RX8) (owner := "CheeseHill$Upright") (x := yX9_harmIn) (N := mX8_harmIn) (N0 := mX9_harmIn) hd okX8_harmIn hl u_521 u_525 u_526 u_519 u_531 rfl ⟨by decide, by decide⟩ zc8 rfl (Nat.le_of_ble_eq_true rfl) hn hstk hst hc hR K
  · exact zi_callU (h := zh b I L) (C := RX2) (owner := "CheeseHill$Upright") (x := yX9_harmIn) (N := mX9_harmIn) (N0 := mX9_harmIn) hd okX9_harmIn hl u_521 u_523 u_519 u_519 u_531 rfl ⟨by decide, by decide⟩ zc2 rfl (Nat.le_of_ble_eq_true rfl) hn hstk hst hc hR K
  · exact zi_callU (h := zh b I L) (C := RX0) (owner := "CheeseHill$Upright") (x := yX9_harmIn) (N := mX9_harmIn) (N0 := mX9_harmIn) hd okX9_harmIn hl u_521 u_522 u_519 u_519 u_531 rfl ⟨by decide, by decide⟩ zc0 rfl (Nat.le_of_ble_eq_true rfl) hn hstk hst hc hR K
end KINDR
