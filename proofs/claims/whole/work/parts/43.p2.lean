/-! what changes, on both sides -/
section CH
variable {d b : Nat} {I I' : Nat → Nat → Int32} {L : Nat → Nat → Int64} {σ : zσ} {w' : zW}
theorem zbl.le {b : Nat} (h : zbl b) : 1 ≤ b ∧ b ≤ 10 := by rcases h with rfl | rfl <;> omega
/-- the land is another -/
theorem zCl.land (h : zCl b I L σ) (hw : hr (zat I' b) w') (ho : ∀ i, (i < b ∨ b + 8 < i) → i < 56 → I' i = I i) : zCl b I' L (w', σ.2) := by
  obtain ⟨h1, h2, h3, h4, h5, h6, h7⟩ := h
  have hb := h1.le
  refine ⟨h1, hw, ?_, h4, ?_, h6.congr (fun k hk => ho (19 + k) (by omega) (by omega)), h7.congr (fun k hk => ho (28 + k) (by omega) (by omega))⟩
  · rw [ho 53 (by omega) (by omega), ho 54 (by omega) (by omega)]; exact h3
  · rw [ho 0 (by omega) (by omega)]; exact h5
/-- only what is of no account has changed -/
theorem zCl.idle (h : zCl b I L σ) (h0 : ∀ i, i < 37 → I' i = I i) (h1 : I' 53 1 = I 53 1) (h2 : ∀ k, k < σ.2.1.1 → I' 54 k = I 54 k) : zCl b I' L σ := by
  obtain ⟨g1, g2, g3, g4, g5, g6, g7⟩ := h
  have hb := g1.le
  refine ⟨g1, g2.congr (fun k hk => h0 (b + k) (by omega)), ⟨by rw [h1]; exact g3.1, fun k hk => by rw [h2 k hk]; exact g3.2 k hk⟩, g4, ?_, g6.congr (fun k hk => h0 (19 + k) (by omega)), g7.congr (fun k hk => h0 (28 + k) (by omega))⟩
  rw [h0 0 (by omega)]; exact g5
theorem zRf.now (h : zRf I L σ) (hw : ∀ k, k < 463 → I' 57 k = nI (w' k)) (ho : I' 56 5 = I 56 5 ∧ ∀ i, (i = 59 ∨ i = 60 ∨ i = 61 ∨ i = 62) → I' i = I i) : zRf I' L (w', σ.2) := by
  obtain ⟨g1, g2, g3, g4, g5, g6⟩ := h
  unfold zRf
  rw [ho.2 61 (by omega), ho.2 62 (by omega), ho.2 60 (by omega), ho.2 59 (by omega), ho.1]
  exact ⟨hw, g2, g3, g4, g5, g6⟩
theorem zRf.idle (h : zRf I L σ) (hw : I' 57 = I 57) (ho : I' 56 5 = I 56 5 ∧ ∀ i, (i = 59 ∨ i = 60 ∨ i = 61 ∨ i = 62) → I' i = I i) : zRf I' L σ := h.now (fun k hk => by rw [hw]; exact h.1 k hk) ho
end CH
theorem hr_slope {f g : Nat → Nat → Int32} {w : zW} {c v : Nat} (h : hr f w) (hc : c < 48) (h0 : ∀ k, k ≤ 8 → k ≠ 1 → g k = f k) (h1 : g 1 = upd (f 1) c (nI v)) : hr g (wset w (5 + c) v) := by
  obtain ⟨⟨a0, a1, a2, a3, a4⟩, a5, a6, a7, a8, a9⟩ := h
  have n2 : wset w (5 + c) v 2 = w 2 := if_neg (by omega)
  have n3 : wset w (5 + c) v 3 = w 3 := if_neg (by omega)
  have n4 : wset w (5 + c) v 4 = w 4 := if_neg (by omega)
  unfold hr
  rw [n2, n3, n4, h0 0 (by omega) (by omega), h0 2 (by omega) (by omega), h0 3 (by omega) (by omega), h0 4 (by omega) (by omega), h0 5 (by omega) (by omega), h0 6 (by omega) (by omega), h0 7 (by omega) (by omega), h0 8 (by omega) (by omega), h1]
  have nn : ∀ j, j ≠ 5 + c → wset w (5 + c) v j = w j := fun j hj => if_neg hj
  refine ⟨⟨by rw [nn 0 (by omega)]; exact a0, by rw [nn 1 (by omega)]; exact a1, a2, a3, a4⟩, fun j hj => ?_, fun j hj => by rw [nn _ (by omega)]; exact a6 j hj, fun i hi => ?_, fun k hk => by rw [nn _ (by omega)]; exact a8 k hk, fun k hk => by rw [nn _ (by omega)]; exact a9 k hk⟩
  · by_cases q : j = c
    · subst q; simp [upd, wset]
    · rw [nn _ (by omega)]; simp [upd, q, a5 j hj]
  · obtain ⟨b1, b2, b3, b4⟩ := a7 i hi
    exact ⟨by rw [nn _ (by omega)]; exact b1, by rw [nn _ (by omega)]; exact b2, by rw [nn _ (by omega)]; exact b3, fun r hr => by rw [nn _ (by omega)]; exact b4 r hr⟩
theorem hr_ground {f g : Nat → Nat → Int32} {w : zW} {c v : Nat} (h : hr f w) (hc : c < 48) (h0 : ∀ k, k ≤ 8 → k ≠ 2 → g k = f k) (h1 : g 2 = upd (f 2) c (nI v)) : hr g (wset w (53 + c) v) := by
  obtain ⟨⟨a0, a1, a2, a3, a4⟩, a5, a6, a7, a8, a9⟩ := h
  have nn : ∀ j, j ≠ 53 + c → wset w (53 + c) v j = w j := fun j hj => if_neg hj
  unfold hr
  rw [nn 2 (by omega), nn 3 (by omega), nn 4 (by omega), h0 0 (by omega) (by omega), h0 1 (by omega) (by omega), h0 3 (by omega) (by omega), h0 4 (by omega) (by omega), h0 5 (by omega) (by omega), h0 6 (by omega) (by omega), h0 7 (by omega) (by omega), h0 8 (by omega) (by omega), h1]
  refine ⟨⟨by rw [nn 0 (by omega)]; exact a0, by rw [nn 1 (by omega)]; exact a1, a2, a3, a4⟩, fun j hj => by rw [nn _ (by omega)]; exact a5 j hj, fun j hj => ?_, fun i hi => ?_, fun k hk => by rw [nn _ (by omega)]; exact a8 k hk, fun k hk => by rw [nn _ (by omega)]; exact a9 k hk⟩
  · by_cases q : j = c
    · subst q; simp [upd, wset]
    · rw [nn _ (by omega)]; simp [upd, q, a6 j hj]
  · obtain ⟨b1, b2, b3, b4⟩ := a7 i hi
    exact ⟨by rw [nn _ (by omega)]; exact b1, by rw [nn _ (by omega)]; exact b2, by rw [nn _ (by omega)]; exact b3, fun r hr => by rw [nn _ (by omega)]; exact b4 r hr⟩
theorem hr_line {f g : Nat → Nat → Int32} {w : zW} {i r v : Nat} (h : hr f w) (hi : i < w 2) (h6 : w 2 ≤ 6) (hr8 : r < 8) (h0 : ∀ k, k ≤ 8 → k ≠ 6 → g k = f k) (h1 : g 6 = upd (f 6) (8 * i + r) (nI v)) : hr g (wset w (119 + 8 * i + r) v) := by
  obtain ⟨⟨a0, a1, a2, a3, a4⟩, a5, a6, a7, a8, a9⟩ := h
  have nn : ∀ j, j ≠ 119 + 8 * i + r → wset w (119 + 8 * i + r) v j = w j := fun j hj => if_neg hj
  unfold hr
  rw [nn 2 (by omega), nn 3 (by omega), nn 4 (by omega), h0 0 (by omega) (by omega), h0 1 (by omega) (by omega), h0 2 (by omega) (by omega), h0 3 (by omega) (by omega), h0 4 (by omega) (by omega), h0 5 (by omega) (by omega), h0 7 (by omega) (by omega), h0 8 (by omega) (by omega), h1]
  refine ⟨⟨by rw [nn 0 (by omega)]; exact a0, by rw [nn 1 (by omega)]; exact a1, a2, a3, a4⟩, fun j hj => by rw [nn _ (by omega)]; exact a5 j hj, fun j hj => by rw [nn _ (by omega)]; exact a6 j hj, fun i2 hi2 => ?_, fun k hk => by rw [nn _ (by omega)]; exact a8 k hk, fun k hk => by rw [nn _ (by omega)]; exact a9 k hk⟩
  obtain ⟨b1, b2, b3, b4⟩ := a7 i2 hi2
  refine ⟨by rw [nn _ (by omega)]; exact b1, by rw [nn _ (by omega)]; exact b2, by rw [nn _ (by omega)]; exact b3, fun r2 hr2 => ?_⟩
  by_cases q : 8 * i2 + r2 = 8 * i + r
  · simp [upd, wset, q, Nat.add_assoc]
  · rw [nn _ (by omega)]; simp [upd, q, b4 r2 hr2]
theorem winv.slope {w : zW} {c v : Nat} (h : winv w) (hc : c < 48) (hv : v ≤ 9) : winv (wset w (5 + c) v) := by
  obtain ⟨a0, a1, a2, a3, a4, a5⟩ := h
  have nn : ∀ j, j ≠ 5 + c → wset w (5 + c) v j = w j := fun j hj => if_neg hj
  unfold winv
  rw [nn 0 (by omega), nn 1 (by omega), nn 2 (by omega), nn 3 (by omega), nn 4 (by omega)]
  refine ⟨a0, fun j hj => ?_, fun j hj => by rw [nn _ (by omega)]; exact a2 j hj, fun i hi => ?_, fun k hk => by rw [nn _ (by omega)]; exact a4 k hk, fun k hk => by rw [nn _ (by omega)]; exact a5 k hk⟩
  · by_cases q : j = c
    · subst q; simp [wset, hv]
    · rw [nn _ (by omega)]; exact a1 j hj
  · obtain ⟨b1, b2, b3, b4⟩ := a3 i hi
    exact ⟨by rw [nn _ (by omega)]; exact b1, by rw [nn _ (by omega)]; exact b2, by rw [nn _ (by omega)]; exact b3, fun r hr => by rw [nn _ (by omega)]; exact b4 r hr⟩
theorem winv.ground {w : zW} {c v : Nat} (h : winv w) (hc : c < 48) (hv : v ≤ 3) : winv (wset w (53 + c) v) := by
  obtain ⟨a0, a1, a2, a3, a4, a5⟩ := h
  have nn : ∀ j, j ≠ 53 + c → wset w (53 + c) v j = w j := fun j hj => if_neg hj
  unfold winv
  rw [nn 0 (by omega), nn 1 (by omega), nn 2 (by omega), nn 3 (by omega), nn 4 (by omega)]
  refine ⟨a0, fun j hj => by rw [nn _ (by omega)]; exact a1 j hj, fun j hj => ?_, fun i hi => ?_, fun k hk => by rw [nn _ (by omega)]; exact a4 k hk, fun k hk => by rw [nn _ (by omega)]; exact a5 k hk⟩
  · by_cases q : j = c
    · subst q; simp [wset, hv]
    · rw [nn _ (by omega)]; exact a2 j hj
  · obtain ⟨b1, b2, b3, b4⟩ := a3 i hi
    exact ⟨by rw [nn _ (by omega)]; exact b1, by rw [nn _ (by omega)]; exact b2, by rw [nn _ (by omega)]; exact b3, fun r hr => by rw [nn _ (by omega)]; exact b4 r hr⟩
theorem winv.line {w : zW} {i r v : Nat} (h : winv w) (hi : i < w 2) (hr8 : r < 8) (hv : v ≤ 2) : winv (wset w (119 + 8 * i + r) v) := by
  obtain ⟨a0, a1, a2, a3, a4, a5⟩ := h
  have nn : ∀ j, j ≠ 119 + 8 * i + r → wset w (119 + 8 * i + r) v j = w j := fun j hj => if_neg hj
  unfold winv
  rw [nn 0 (by omega), nn 1 (by omega), nn 2 (by omega), nn 3 (by omega), nn 4 (by omega)]
  refine ⟨a0, fun j hj => by rw [nn _ (by omega)]; exact a1 j hj, fun j hj => by rw [nn _ (by omega)]; exact a2 j hj, fun i2 hi2 => ?_, fun k hk => by rw [nn _ (by omega)]; exact a4 k hk, fun k hk => by rw [nn _ (by omega)]; exact a5 k hk⟩
  obtain ⟨b1, b2, b3, b4⟩ := a3 i2 hi2
  refine ⟨by rw [nn _ (by omega)]; exact b1, by rw [nn _ (by omega)]; exact b2, by rw [nn _ (by omega)]; exact b3, fun r2 hr2 => ?_⟩
  by_cases q : 119 + 8 * i2 + r2 = 119 + 8 * i + r
  · rw [q]; simp [wset, hv]
  · rw [nn _ q]; exact b4 r2 hr2
theorem zup_now {I : Nat → Nat → Int32} {w : zW} {k v : Nat} (h : ∀ j, j < 463 → I 57 j = nI (w j)) : ∀ j, j < 463 → zup I 57 k (nI v) 57 j = nI (wset w k v j) := by
  intro j hj
  by_cases q : j = k
  · subst q; simp [zup, wset]
  · simp [zup, wset, q, h j hj]
theorem hr_lay {I : Nat → Nat → Int32} {q h w : Nat} : hr (zat (zlay I q (nI h) (nI w)) q) (wcl h w) := by
  unfold hr wcl
  simp only [zat, zlay, zfill, zup]
  refine ⟨⟨?_, ?_, ?_, ?_, ?_⟩, fun c hc => ?_, fun c hc => ?_, fun i hi => absurd hi (by simp), fun k hk => absurd hk (by simp), fun k hk => absurd hk (by simp)⟩
  · simp
  · simp
  · simp; rfl
  · simp; rfl
  · simp; rfl
  · have h2 : 5 ≤ 5 + c ∧ 5 + c ≤ 52 := by omega
    rw [if_neg (by omega), if_pos ⟨trivial, hc⟩, if_neg (by omega), if_neg (by omega), if_pos h2]
    rfl
  · rw [if_pos ⟨trivial, hc⟩, if_neg (by omega), if_neg (by omega), if_neg (by omega)]
    rfl
theorem winv_cl {h w : Nat} (hh : 1 ≤ h ∧ h ≤ 8) (hw : 1 ≤ w ∧ w ≤ 6) : winv (wcl h w) := by
  unfold winv wcl
  refine ⟨⟨by simpa using hh, by simpa using hw, by simp, by simp, by simp⟩, fun c hc => ?_, fun c hc => ?_, fun i hi => absurd hi (by simp), fun k hk => absurd hk (by simp), fun k hk => absurd hk (by simp)⟩
  · rw [if_neg (by omega), if_neg (by omega), if_pos (by omega)]; omega
  · rw [if_neg (by omega), if_neg (by omega), if_neg (by omega)]; omega
theorem zlay_ne {I : Nat → Nat → Int32} {q i : Nat} {h w : Int32} (hi : i < q ∨ q + 8 < i) : zlay I q h w i = I i := by
  funext k
  simp only [zlay, zfill, zup]
  rw [if_neg (by omega), if_neg (by omega), if_neg (by omega), if_neg (by omega), if_neg (by omega), if_neg (by omega), if_neg (by omega)]
