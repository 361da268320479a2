section LEAF3
variable {d b : Nat} {I : Nat → Nat → Int32} {L : Nat → Nat → Int64}
theorem kX4_hasCell {q : Nat} (hq : zhl q) (r l : Int32) : zCall (d + 2) mX4_hasCell [.ref q, .int r, .int l] (zh b I L) (some (.int (zb ((0 ≤ r ∧ r ≤ I q 0 - 1) ∧ (0 ≤ l ∧ l ≤ I q 1 - 1)))), zh b I L) := by
  refine zCall.of okX4_hasCell (Nat.le_of_ble_eq_true rfl) ⟨Nat.le_refl _, Nat.le_refl _⟩ (fun G => tX4_hasCell_0 hq zR0.w ⟨fun h => ?_, fun h => ⟨fun h2 => ?_, fun h2 => ?_⟩⟩)
  · rw [zb_f (fun q => h q.1)]
  · rw [zb_f (fun q => h2 q.2)]
  · rw [zb_t ⟨h, h2⟩]
def zkn (x : Int32) : Nat := if x = 1 then 1 else if x = 2 then 2 else if x = 3 then 3 else if x = 4 then 4 else 0
theorem zkn_lt (x : Int32) : zkn x < 5 := by
  unfold zkn
  repeat' split
  all_goals omega
theorem kX5_numbered (x : Int32) : zCall d mX5_numbered [.ref 37, .int x] (zh b I L) (some (.ref (38 + zkn x)), zh b I L) := by
  refine zCall.of okX5_numbered (Nat.le_of_ble_eq_true rfl) ⟨Nat.le_refl _, Nat.le_refl _⟩ (fun G => tX5_numbered_0 ⟨fun h => ?_, fun h => ?_, fun h => ?_, fun h => ?_, fun h => ?_⟩)
  · have h1 : ¬ x = 1 := fun q => by rw [q] at h; exact absurd h (by decide)
    have h2 : ¬ x = 2 := fun q => by rw [q] at h; exact absurd h (by decide)
    have h3 : ¬ x = 3 := fun q => by rw [q] at h; exact absurd h (by decide)
    have h4 : ¬ x = 4 := fun q => by rw [q] at h; exact absurd h (by decide)
    simp [zkn, h1, h2, h3, h4]
  all_goals (subst h; rfl)
def zim (x : Int32) : Nat := if x = 0 then 19 else 28
theorem zim_hl (x : Int32) : zhl (zim x) := by
  unfold zim
  split
  · exact z19
  · exact z28
theorem kX11_imageNumbered (x : Int32) : zCall d mX11_imageNumbered [.ref 0, .int x] (zh b I L) (some (.ref (zim x)), zh b I L) := by
  refine zCall.of okX11_imageNumbered (Nat.le_of_ble_eq_true rfl) ⟨Nat.le_refl _, Nat.le_refl _⟩ (fun G => tX11_imageNumbered_0 ⟨fun h => ?_, fun h => ?_⟩)
  · simp [zim, h]
  · simp [zim, h]
theorem kX12_isCell57 (r l : Int32) : zCall (d + 1) mX12_isCell [.ref 57, .int r, .int l] (zh b I L) (some (.int (zb ((0 ≤ r.toInt64 ∧ r.toInt64 ≤ (I 57 0 - 1).toInt64) ∧ (0 ≤ l.toInt64 ∧ l.toInt64 ≤ (I 57 1 - 1).toInt64)))), zh b I L) := by
  refine zCall.of okX12_isCell (Nat.le_of_ble_eq_true rfl) ⟨Nat.le_refl _, Nat.le_refl _⟩ (fun G => tX12_isCell_0 zR0.w ⟨fun h => ?_, fun h => ⟨fun h2 => ?_, fun h2 => ?_⟩⟩)
  · rw [zb_f (fun q => h q.1)]
  · rw [zb_f (fun q => h2 q.2)]
  · rw [zb_t ⟨h, h2⟩]
def zop0 (p s g : Int32) : Int32 := if g = 3 then 0 else p + s / 2
def zhm0 (g p np : Int32) : Int32 := if g = 1 ∧ 10 ≤ np then 2 else if g = 3 ∧ 6 ≤ p then 3 else 0
def zfelt (g : Int32) : Int32 := if g = 3 then 0 else g
theorem kX9_ownPace (t : Nat) (p s g r : Int32) : zCall d mX9_ownPace [.ref t, .int p, .int s, .int g, .int r] (zh b I L) (some (.int (zop0 p s g)), zh b I L) :=
  zCall.of okX9_ownPace (Nat.le_of_ble_eq_true rfl) ⟨Nat.le_refl _, Nat.le_refl _⟩ (fun G => tX9_ownPace_0 ⟨fun h => by simp [zop0, h], fun h => by simp [zop0, h]⟩)
theorem kX9_delayInNettles (t : Nat) : zCall d mX9_delayInNettles [.ref t] (zh b I L) (some (.int 5), zh b I L) :=
  zCall.of okX9_delayInNettles (Nat.le_of_ble_eq_true rfl) ⟨Nat.le_refl _, Nat.le_refl _⟩ (fun G => tX9_delayInNettles_0 rfl)
theorem kX8_delayInNettles (t : Nat) : zCall d mX8_delayInNettles [.ref t] (zh b I L) (some (.int 0), zh b I L) :=
  zCall.of okX8_delayInNettles (Nat.le_of_ble_eq_true rfl) ⟨Nat.le_refl _, Nat.le_refl _⟩ (fun G => tX8_delayInNettles_0 rfl)
theorem kX8_felt (g : Int32) : zCall d mX8_felt [.int g] (zh b I L) (some (.int (zfelt g)), zh b I L) :=
  zCall.of okX8_felt (Nat.le_of_ble_eq_true rfl) ⟨Nat.le_refl _, Nat.le_refl _⟩ (fun G => tX8_felt_0 ⟨fun h => by simp [zfelt, h], fun h => by simp [zfelt, h]⟩)
theorem kX9_harmIn (t : Nat) (g p np : Int32) : zCall d mX9_harmIn [.ref t, .int g, .int p, .int np] (zh b I L) (some (.int (zhm0 g p np)), zh b I L) := by
  refine zCall.of okX9_harmIn (Nat.le_of_ble_eq_true rfl) ⟨Nat.le_refl _, Nat.le_refl _⟩ (fun G => tX9_harmIn_0 ⟨fun h => ⟨fun h2 => ?_, fun h2 => ⟨fun h3 => ?_, fun h3 => ?_⟩⟩, fun h => ⟨fun h2 => ⟨fun h3 => ?_, fun h3 => ?_⟩, fun h2 => ?_⟩⟩)
  · simp [zhm0, h, h2]
  · simp [zhm0, h, h2, znlt.mpr h3]
  · simp [zhm0, h, h2, znle.mp h3]
  · simp [zhm0, h, znlt.mpr h2]
  · rw [h] at h3; exact absurd h3 (by decide)
  · simp [zhm0, h, znle.mp h2]
end LEAF3
