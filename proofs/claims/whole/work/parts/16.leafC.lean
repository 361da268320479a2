/-! leaf methods: contracts -/
section LEAF
variable {d b : Nat} {I : Nat → Nat → Int32} {L : Nat → Nat → Int64}
theorem znle {a b : Int32} : ¬ a < b ↔ b ≤ a := Int32.not_lt
theorem znlt {a b : Int32} : ¬ a ≤ b ↔ b < a := Int32.not_le
theorem kX11_within (v lo hi : Int32) : zCall d mX11_within [.int v, .int lo, .int hi] (zh b I L) (some (.int (zb (lo ≤ v ∧ v ≤ hi))), zh b I L) := by
  refine zCall.of okX11_within (Nat.le_of_ble_eq_true rfl) ⟨Nat.le_refl _, Nat.le_refl _⟩ (fun G => tX11_within_0 ⟨fun h => ?_, fun h => ⟨fun h2 => ?_, fun h2 => ?_⟩⟩)
  · rw [zb_f (fun q => znlt.mpr h q.1)]
  · rw [zb_f (fun q => znlt.mpr h2 q.2)]
  · rw [zb_t ⟨znle.mp h, znle.mp h2⟩]
theorem kX11_cell (r l : Int32) : zCall d mX11_cell [.int r, .int l] (zh b I L) (some (.int (r * 6 + l)), zh b I L) := zCall.of okX11_cell (Nat.le_of_ble_eq_true rfl) ⟨Nat.le_refl _, Nat.le_refl _⟩ (fun G => tX11_cell_0 rfl)
theorem kX11_onLine (r l : Int32) : zCall d mX11_onLine [.int r, .int l] (zh b I L) (some (.int (r * 8 + l)), zh b I L) := zCall.of okX11_onLine (Nat.le_of_ble_eq_true rfl) ⟨Nat.le_refl _, Nat.le_refl _⟩ (fun G => tX11_onLine_0 rfl)
theorem kX11_onWay (r l : Int32) : zCall d mX11_onWay [.int r, .int l] (zh b I L) (some (.int (r * 9 + l)), zh b I L) := zCall.of okX11_onWay (Nat.le_of_ble_eq_true rfl) ⟨Nat.le_refl _, Nat.le_refl _⟩ (fun G => tX11_onWay_0 rfl)
theorem kX4_isLaidOut {q : Nat} (hq : zhl q) : zCall d mX4_isLaidOut [.ref q] (zh b I L) (some (.int (zb (0 < I q 0))), zh b I L) := by
  refine zCall.of okX4_isLaidOut (Nat.le_of_ble_eq_true rfl) ⟨Nat.le_refl _, Nat.le_refl _⟩ (fun G => tX4_isLaidOut_0 hq ⟨fun h => ?_, fun h => ?_⟩)
  · rw [zb_f (fun q => znle.mpr h q)]
  · rw [zb_t (znlt.mp h)]
/-- a step aside: w lanes, from lane l by s -/
def zlb (w l s : Int32) : Int32 := if s = 1 ∧ 0 < l then l - 1 else if s = 2 ∧ l < w - 1 then l + 1 else l
theorem zlb_tree {w l s : Int32} {X : Int32 → Prop} (hX : X (zlb w l s)) : (¬ s = 1 → ((¬ s = 2 → X l) ∧ (s = 2 → ((w - 1 ≤ l → X l) ∧ (¬ w - 1 ≤ l → X (l + 1)))))) ∧ (s = 1 → ((l ≤ 0 → ((¬ s = 2 → X l) ∧ (s = 2 → ((w - 1 ≤ l → X l) ∧ (¬ w - 1 ≤ l → X (l + 1)))))) ∧ (¬ l ≤ 0 → X (l - 1)))) := by
  unfold zlb at hX
  refine ⟨fun h1 => ?_, fun h1 => ⟨fun h2 => ?_, fun h2 => ?_⟩⟩
  · rw [if_neg (fun q => h1 q.1)] at hX
    refine ⟨fun h3 => by rwa [if_neg (fun q => h3 q.1)] at hX, fun h3 => ⟨fun h4 => by rwa [if_neg (fun q => znle.mpr h4 q.2)] at hX, fun h4 => by rwa [if_pos ⟨h3, znlt.mp h4⟩] at hX⟩⟩
  · rw [if_neg (fun q => znle.mpr h2 q.2)] at hX
    have h3 : ¬ s = 2 := by rw [h1]; decide
    refine ⟨fun _ => by rwa [if_neg (fun q => h3 q.1)] at hX, fun q => absurd q h3⟩
  · rwa [if_pos ⟨h1, znlt.mp h2⟩] at hX
theorem kX4_laneBeyond {q : Nat} (hq : zhl q) (l s : Int32) : zCall d mX4_laneBeyond [.ref q, .int l, .int s] (zh b I L) (some (.int (zlb (I q 1) l s)), zh b I L) :=
  zCall.of okX4_laneBeyond (Nat.le_of_ble_eq_true rfl) ⟨Nat.le_refl _, Nat.le_refl _⟩ (fun G => tX4_laneBeyond_0 hq (zlb_tree (X := fun z => (some (Value.int (zlb (I q 1) l s)), zh b I L) = (some (Value.int z), zh b I L)) rfl))
theorem kX12_steps (l s : Int32) : zCall d mX12_steps [.ref 56, .int l, .int s] (zh b I L) (some (.int (zlb (I 57 1) l s)), zh b I L) :=
  zCall.of okX12_steps (Nat.le_of_ble_eq_true rfl) ⟨Nat.le_refl _, Nat.le_refl _⟩ (fun G => tX12_steps_0 (zlb_tree (X := fun z => (some (Value.int (zlb (I 57 1) l s)), zh b I L) = (some (Value.int z), zh b I L)) rfl))
theorem kX11_refuseBad (x : Int32) : zCall d mX11_refuseBad [.ref 0, .int x] (zh b I L) (some (.int x), zh b (zup I 0 12 (I 0 12 + 1)) L) := zCall.of okX11_refuseBad (Nat.le_of_ble_eq_true rfl) ⟨Nat.le_refl _, Nat.le_refl _⟩ (fun G => tX11_refuseBad_0 rfl)
theorem kX11_refuseNo (x : Int32) : zCall d mX11_refuseNo [.ref 0, .int x] (zh b I L) (some (.int x), zh b (zup I 0 13 (I 0 13 + 1)) L) := zCall.of okX11_refuseNo (Nat.le_of_ble_eq_true rfl) ⟨Nat.le_refl _, Nat.le_refl _⟩ (fun G => tX11_refuseNo_0 rfl)
theorem kX11_refuseFull : zCall d mX11_refuseFull [.ref 0] (zh b I L) (some (.int (-4)), zh b (zup I 0 14 (I 0 14 + 1)) L) := zCall.of okX11_refuseFull (Nat.le_of_ble_eq_true rfl) ⟨Nat.le_refl _, Nat.le_refl _⟩ (fun G => tX11_refuseFull_0 rfl)
theorem lgc_lt {x y : Int64} : lg_cmp x y < 0 ↔ x < y := by
  unfold lg_cmp
  by_cases h1 : x > y
  · rw [if_pos h1]
    exact ⟨fun q => absurd q (by decide), fun q => absurd q (by simp only [gt_iff_lt, Int64.lt_iff_toInt_lt] at *; omega)⟩
  · rw [if_neg h1]
    by_cases h2 : x = y
    · rw [if_pos h2, h2]
      exact ⟨fun q => absurd q (by decide), fun q => absurd q (by simp only [Int64.lt_iff_toInt_lt] at *; omega)⟩
    · rw [if_neg h2]
      refine ⟨fun _ => ?_, fun _ => by decide⟩
      have h3 : x.toInt ≠ y.toInt := fun q => h2 (Int64.toInt_inj.mp q)
      simp only [gt_iff_lt, Int64.lt_iff_toInt_lt] at *
      omega
theorem lgc_gt {x y : Int64} : 0 < lg_cmp x y ↔ y < x := by
  unfold lg_cmp
  by_cases h1 : x > y
  · rw [if_pos h1]
    exact ⟨fun _ => h1, fun _ => by decide⟩
  · rw [if_neg h1]
    refine ⟨fun q => ?_, fun q => absurd q h1⟩
    by_cases h2 : x = y
    · rw [if_pos h2] at q; exact absurd q (by decide)
    · rw [if_neg h2] at q; exact absurd q (by decide)
theorem lgc_eq {x y : Int64} : lg_cmp x y = 0 ↔ x = y := by
  unfold lg_cmp
  by_cases h1 : x > y
  · rw [if_pos h1]
    refine ⟨fun q => absurd q (by decide), fun q => ?_⟩
    rw [q] at h1
    simp only [gt_iff_lt, Int64.lt_iff_toInt_lt] at h1
    omega
  · rw [if_neg h1]
    by_cases h2 : x = y
    · rw [if_pos h2]; exact ⟨fun _ => h2, fun _ => rfl⟩
    · rw [if_neg h2]; exact ⟨fun q => absurd q (by decide), fun q => absurd q h2⟩
theorem kX12_in (v lo hi : Int64) : zCall d mX12_in [.long v, .long lo, .long hi] (zh b I L) (some (.int (zb (lo ≤ v ∧ v ≤ hi))), zh b I L) := by
  refine zCall.of okX12_in (Nat.le_of_ble_eq_true rfl) ⟨Nat.le_refl _, Nat.le_refl _⟩ (fun G => tX12_in_0 ⟨fun h => ?_, fun h => ⟨fun h2 => ?_, fun h2 => ?_⟩⟩)
  · rw [zb_f (fun q => Int64.not_le.mpr (lgc_lt.mp h) q.1)]
  · rw [zb_f (fun q => Int64.not_le.mpr (lgc_gt.mp h2) q.2)]
  · rw [zb_t ⟨Int64.not_lt.mp (fun q => h (lgc_lt.mpr q)), Int64.not_lt.mp (fun q => h2 (lgc_gt.mpr q))⟩]
def zca (what r l : Int32) : Int32 := (if what = 0 then 5 else 53) + 6 * r + l
theorem kX12_cellAt (what r l : Int32) : zCall d mX12_cellAt [.int what, .int r, .int l] (zh b I L) (some (.int (zca what r l)), zh b I L) := by
  refine zCall.of okX12_cellAt (Nat.le_of_ble_eq_true rfl) ⟨Nat.le_refl _, Nat.le_refl _⟩ (fun G => tX12_cellAt_0 ⟨fun h => ?_, fun h => ?_⟩)
  · rw [zca, if_neg h]
  · rw [zca, if_pos h]
theorem kX12_isLetter (x : Int32) : zCall d mX12_isLetter [.int x] (zh b I L) (some (.int (zb (96 < x ∧ x < 123))), zh b I L) := by
  refine zCall.of okX12_isLetter (Nat.le_of_ble_eq_true rfl) ⟨Nat.le_refl _, Nat.le_refl _⟩ (fun G => tX12_isLetter_0 ⟨fun h => ?_, fun h => ⟨fun h2 => ?_, fun h2 => ?_⟩⟩)
  · rw [zb_f (fun q => znle.mpr h q.1)]
  · rw [zb_f (fun q => znle.mpr h2 q.2)]
  · rw [zb_t ⟨znlt.mp h, znlt.mp h2⟩]
theorem kX12_isFigure (x : Int32) : zCall d mX12_isFigure [.int x] (zh b I L) (some (.int (zb (47 < x ∧ x < 58))), zh b I L) := by
  refine zCall.of okX12_isFigure (Nat.le_of_ble_eq_true rfl) ⟨Nat.le_refl _, Nat.le_refl _⟩ (fun G => tX12_isFigure_0 ⟨fun h => ?_, fun h => ⟨fun h2 => ?_, fun h2 => ?_⟩⟩)
  · rw [zb_f (fun q => znle.mpr h q.1)]
  · rw [zb_f (fun q => znle.mpr h2 q.2)]
  · rw [zb_t ⟨znlt.mp h, znlt.mp h2⟩]
def zcap (x : Int32) : Int32 := if 20 ≤ x then 20 else x
theorem kX12_capped (x : Int32) : zCall d mX12_capped [.int x] (zh b I L) (some (.int (zcap x)), zh b I L) := by
  refine zCall.of okX12_capped (Nat.le_of_ble_eq_true rfl) ⟨Nat.le_refl _, Nat.le_refl _⟩ (fun G => tX12_capped_0 ⟨fun h => ?_, fun h => ?_⟩)
  · rw [zcap, if_pos h]
  · rw [zcap, if_neg h]
end LEAF
