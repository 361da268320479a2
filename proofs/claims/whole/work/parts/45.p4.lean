/-! pairs: heal, hurt, count, undo, image, from -/
theorem hr_row0 {f g : Nat → Nat → Int32} {w w' : zW} (h : hr f w) (h0 : ∀ k, k ≤ 8 → k ≠ 0 → g k = f k) (ha : g 0 0 = nI (w' 0) ∧ g 0 1 = nI (w' 1) ∧ g 0 2 = nI (w' 2) ∧ g 0 3 = nI (w' 3) ∧ g 0 4 = nI (w' 4)) (hn : ∀ j, 5 ≤ j → w' j = w j) (h2 : w' 2 ≤ w 2) (h3 : w' 3 ≤ w 3) (h4 : w' 4 ≤ w 4) : hr g w' := by
  obtain ⟨-, a5, a6, a7, a8, a9⟩ := h
  unfold hr
  rw [h0 1 (by omega) (by omega), h0 2 (by omega) (by omega), h0 3 (by omega) (by omega), h0 4 (by omega) (by omega), h0 5 (by omega) (by omega), h0 6 (by omega) (by omega), h0 7 (by omega) (by omega), h0 8 (by omega) (by omega)]
  refine ⟨ha, fun j hj => by rw [hn _ (by omega)]; exact a5 j hj, fun j hj => by rw [hn _ (by omega)]; exact a6 j hj, fun i hi => ?_, fun k hk => by rw [hn _ (by omega)]; exact a8 k (by omega), fun k hk => by rw [hn _ (by omega)]; exact a9 k (by omega)⟩
  obtain ⟨b1, b2, b3, b4⟩ := a7 i (by omega)
  exact ⟨by rw [hn _ (by omega)]; exact b1, by rw [hn _ (by omega)]; exact b2, by rw [hn _ (by omega)]; exact b3, fun r hr => by rw [hn _ (by omega)]; exact b4 r hr⟩
theorem p_heal : zPair mX11_heal mX12_heal [] := by
  refine zPair.of fun σ hi => ?_
  have nn : ∀ j, j ≠ 3 → wset σ.1 3 0 j = σ.1 j := fun j hj => if_neg hj
  refine ⟨.int (nI (σ.1 3)), (wset σ.1 3 0, σ.2), fun d b I L hc => ⟨b, zup I b 3 0, L, ?_, ?_, ?_, zhiL.rf⟩, fun d b I L hc => ⟨zup I 57 3 0, L, ?_, ?_, zlo.rf.up (by decide), zloL.rf⟩, ⟨?_, hi.2⟩, Or.inl ⟨rfl, _, rfl⟩⟩
  · exact zCall.of okX11_heal (Nat.le_of_ble_eq_true rfl) ⟨Nat.le_refl _, Nat.le_refl _⟩ (fun G => tX11_heal_0 hc.1 (by rw [show I b 3 = nI (σ.1 3) from hc.2.1.1.2.2.2.1]))
  · obtain ⟨⟨a0, a1, a2, a3, a4⟩, -⟩ := id hc.2.1
    refine hc.land (hr_row0 hc.2.1 (fun k hk hk0 => zup_ne (by omega)) ⟨?_, ?_, ?_, ?_, ?_⟩ (fun j hj => nn j (by omega)) (by rw [nn 2 (by omega)]; exact Nat.le_refl _) (Nat.zero_le _) (by rw [nn 4 (by omega)]; exact Nat.le_refl _)) (fun i h1 _ => zup_ne (by omega))
    · rw [nn 0 (by omega), ← a0]; simp [zat, zup]
    · rw [nn 1 (by omega), ← a1]; simp [zat, zup]
    · rw [nn 2 (by omega), ← a2]; simp [zat, zup]
    · simp [zat, zup, wset]; rfl
    · rw [nn 4 (by omega), ← a4]; simp [zat, zup]
  · exact zhi.rf.up (by have := hc.1.le; omega)
  · exact zCall.of okX12_heal (Nat.le_of_ble_eq_true rfl) ⟨Nat.le_refl _, Nat.le_refl _⟩ (fun G => tX12_heal_0 (by rw [hc.1 3 (by decide)]))
  · exact hc.now (zup_now (v := 0) hc.1) ⟨by rw [zup_ne (by decide)], fun i hi2 => zup_ne (by omega)⟩
  · obtain ⟨⟨b0, b1, b2, b3, b4⟩, a1, a2, a3, a4, a5⟩ := hi.1
    have n3 : wset σ.1 3 0 3 = 0 := if_pos rfl
    show winv (wset σ.1 3 0)
    unfold winv
    rw [n3, nn 0 (by omega), nn 1 (by omega), nn 2 (by omega), nn 4 (by omega)]
    refine ⟨⟨b0, b1, b2, Nat.zero_le _, b4⟩, fun c hc => by rw [nn _ (by omega)]; exact a1 c hc, fun c hc => by rw [nn _ (by omega)]; exact a2 c hc, fun i h2 => ?_, fun k hk => absurd hk (Nat.not_lt_zero _), fun k hk => by rw [nn _ (by omega)]; exact a5 k hk⟩
    obtain ⟨c1, c2, c3, c4⟩ := a3 i h2
    exact ⟨by rw [nn _ (by omega)]; exact c1, by rw [nn _ (by omega)]; exact c2, by rw [nn _ (by omega)]; exact c3, fun r hr => by rw [nn _ (by omega)]; exact c4 r hr⟩
/-- one more told -/
def whurt (w : zW) (v : Nat) : zW := wset (wset w (167 + w 3) v) 3 (w 3 + 1)
theorem p_hurt (x1 : Int32) : zPair mX11_hurt mX12_hurt [.int x1] := by
  refine zPair.of fun σ hi => ?_
  obtain ⟨⟨hw0, hw1, hw2, hw3, hw4⟩, -⟩ := id hi.1
  have e1 : (0 ≤ x1 ∧ x1 ≤ 3) ↔ zin x1 0 3 := zin_c (lo := 0) (hi := 3) (by decide) (by decide)
  have r1 : (0 ≤ x1.toInt64 ∧ x1.toInt64 ≤ 3) ↔ zin x1 0 3 := zin_r (lo := 0) (hi := 3) (by decide) (by decide)
  by_cases hv : zin x1 0 3
  · obtain ⟨v, -, hv3, hxv⟩ := hv.nat (by decide)
    by_cases hf : σ.1 3 < 8
    · have nn : ∀ j, j ≠ 3 → j ≠ 167 + σ.1 3 → whurt σ.1 v j = σ.1 j := fun j h1 h2 => by simp [whurt, wset, h1, h2]
      have n3 : whurt σ.1 v 3 = σ.1 3 + 1 := by simp [whurt, wset]
      have nv : whurt σ.1 v (167 + σ.1 3) = v := by
        have : ¬ 167 + σ.1 3 = 3 := by omega
        simp [whurt, wset, this]
      refine ⟨.int (nI (σ.1 3 + 1)), (whurt σ.1 v, σ.2), fun d b I L hc => ⟨b, zup (zup I (b + 7) (σ.1 3) (nI v)) b 3 (nI (σ.1 3 + 1)), L, ?_, ?_, ?_, zhiL.rf⟩, fun d b I L hc => ⟨zup (zup I 57 (167 + σ.1 3) (nI v)) 57 3 (nI (σ.1 3 + 1)), L, ?_, ?_, (zlo.rf.up (by decide)).up (by decide), zloL.rf⟩, ⟨?_, hi.2⟩, Or.inl ⟨rfl, _, rfl⟩⟩
      · have h3 : I b 3 = nI (σ.1 3) := hc.2.1.1.2.2.2.1
        refine zCall.of okX11_hurt (Nat.le_of_ble_eq_true rfl) ⟨Nat.le_refl _, Nat.le_refl _⟩ (fun G => tX11_hurt_0 (d := d + 39) hc.1 zR0.w ⟨fun _ => ⟨fun _ => ?_, fun q => absurd ?_ q⟩, fun q => absurd (e1.mpr hv) q⟩)
        · rw [h3, zx_nI (by omega), hxv]
          refine ⟨zv_in hf (by decide), ?_⟩
          rintro I4 rfl
          have h4 : zup I (b + 7) (σ.1 3) (nI v) b 3 = nI (σ.1 3) := by rw [zup_ne (by omega)]; exact h3
          rw [h4, nI_1]
          simp [zup]
        · rw [h3]; exact nI_lt hf (by decide)
      · obtain ⟨⟨a0, a1, a2, a3, a4⟩, a5, a6, a7, a8, a9⟩ := hc.2.1
        have g0 : ∀ k, k ≠ 3 → zat (zup (zup I (b + 7) (σ.1 3) (nI v)) b 3 (nI (σ.1 3 + 1))) b 0 k = I b k := fun k hk => by simp [zat, zup, hk]
        have g7 : zat (zup (zup I (b + 7) (σ.1 3) (nI v)) b 3 (nI (σ.1 3 + 1))) b 7 = upd (I (b + 7)) (σ.1 3) (nI v) := by
          show zup (zup I (b + 7) (σ.1 3) (nI v)) b 3 (nI (σ.1 3 + 1)) (b + 7) = _
          rw [zup_ne (by omega), zup_self]
        have gk : ∀ k, k ≠ 0 → k ≠ 7 → zat (zup (zup I (b + 7) (σ.1 3) (nI v)) b 3 (nI (σ.1 3 + 1))) b k = I (b + k) := fun k h1 h2 => by
          show zup (zup I (b + 7) (σ.1 3) (nI v)) b 3 (nI (σ.1 3 + 1)) (b + k) = _
          rw [zup_ne (by omega), zup_ne (by omega)]
        refine hc.land ?_ (fun i h1 _ => by rw [zup_ne (by omega), zup_ne (by omega)])
        unfold hr
        rw [n3, nn 0 (by omega) (by omega), nn 1 (by omega) (by omega), nn 2 (by omega) (by omega), nn 4 (by omega) (by omega), g0 0 (by omega), g0 1 (by omega), g0 2 (by omega), g0 4 (by omega), g7, gk 1 (by omega) (by omega), gk 2 (by omega) (by omega), gk 3 (by omega) (by omega), gk 4 (by omega) (by omega), gk 5 (by omega) (by omega), gk 6 (by omega) (by omega), gk 8 (by omega) (by omega)]
        refine ⟨⟨a0, a1, a2, by simp [zat, zup], a4⟩, fun j hj => by rw [nn _ (by omega) (by omega)]; exact a5 j hj, fun j hj => by rw [nn _ (by omega) (by omega)]; exact a6 j hj, fun i h2 => ?_, fun k hk => ?_, fun k hk => by rw [nn _ (by omega) (by omega)]; exact a9 k hk⟩
        · obtain ⟨c1, c2, c3, c4⟩ := a7 i h2
          exact ⟨by rw [nn _ (by omega) (by omega)]; exact c1, by rw [nn _ (by omega) (by omega)]; exact c2, by rw [nn _ (by omega) (by omega)]; exact c3, fun r hr => by rw [nn _ (by omega) (by omega)]; exact c4 r hr⟩
        · by_cases q : k = σ.1 3
          · subst q; rw [nv]; simp [upd]
          · rw [nn _ (by omega) (by omega)]; simp only [upd, q, if_false]; exact a8 k (by omega)
      · have := hc.1.le
        exact (zhi.rf.up (by omega)).up (by omega)
      · have h3 : I 57 3 = nI (σ.1 3) := hc.1 3 (by decide)
        refine zCall.of okX12_hurt (Nat.le_of_ble_eq_true rfl) ⟨Nat.le_refl _, Nat.le_refl _⟩ (fun G => tX12_hurt_0 (d := d + 39) zR0.w ⟨fun _ => ⟨fun _ => ?_, fun q => absurd q ?_⟩, fun q => absurd (r1.mpr hv) q⟩)
        · rw [h3, show (167 : Int32) = nI 167 from rfl, nI_add, zx_nI (by omega), hxv]
          refine ⟨zv_in (by omega) (by decide), ?_⟩
          rintro I4 rfl
          have h4 : zup I 57 (167 + σ.1 3) (nI v) 57 3 = nI (σ.1 3) := by
            rw [zup_self]
            simp only [upd]
            rw [if_neg (by omega)]; exact h3
          rw [h4, nI_1]
          simp [zup]
        · rw [h3, show (8 : Int32) = nI 8 from rfl, nI_eq (by omega) (by omega)]; omega
      · exact hc.now (zup_now (zup_now hc.1)) ⟨by rw [zup_ne (by decide), zup_ne (by decide)], fun i hi2 => by rw [zup_ne (by omega), zup_ne (by omega)]⟩
      · obtain ⟨⟨b0, b1, b2, b3, b4⟩, a1, a2, a3, a4, a5⟩ := hi.1
        show winv (whurt σ.1 v)
        unfold winv
        rw [n3, nn 0 (by omega) (by omega), nn 1 (by omega) (by omega), nn 2 (by omega) (by omega), nn 4 (by omega) (by omega)]
        refine ⟨⟨b0, b1, b2, by omega, b4⟩, fun c hc => by rw [nn _ (by omega) (by omega)]; exact a1 c hc, fun c hc => by rw [nn _ (by omega) (by omega)]; exact a2 c hc, fun i h2 => ?_, fun k hk => ?_, fun k hk => by rw [nn _ (by omega) (by omega)]; exact a5 k hk⟩
        · obtain ⟨c1, c2, c3, c4⟩ := a3 i h2
          exact ⟨by rw [nn _ (by omega) (by omega)]; exact c1, by rw [nn _ (by omega) (by omega)]; exact c2, by rw [nn _ (by omega) (by omega)]; exact c3, fun r hr => by rw [nn _ (by omega) (by omega)]; exact c4 r hr⟩
        · by_cases q : k = σ.1 3
          · subst q; rw [nv]; exact hv3
          · rw [nn _ (by omega) (by omega)]; exact a4 k (by omega)
    · have h8 : σ.1 3 = 8 := by omega
      refine ⟨.int (-4), sFull σ, sc_full fun d b I L hc => ?_, sr_full fun d b I L hc => ?_, hi, Or.inl ⟨rfl, _, rfl⟩⟩
      · have h3 : I b 3 = nI (σ.1 3) := hc.2.1.1.2.2.2.1
        exact zCall.of okX11_hurt (Nat.le_of_ble_eq_true rfl) ⟨Nat.le_refl _, Nat.le_refl _⟩ (fun G => tX11_hurt_0 (d := d + 39) hc.1 zR0.w ⟨fun _ => ⟨fun q => absurd q (by rw [h3, h8]; decide), fun _ => xFull⟩, fun q => absurd (e1.mpr hv) q⟩)
      · have h3 : I 57 3 = nI (σ.1 3) := hc.1 3 (by decide)
        exact zCall.of okX12_hurt (Nat.le_of_ble_eq_true rfl) ⟨Nat.le_refl _, Nat.le_refl _⟩ (fun G => tX12_hurt_0 (d := d + 39) zR0.w ⟨fun _ => ⟨fun q => absurd (by rw [h3, h8]; decide) q, fun _ => yFull⟩, fun q => absurd (r1.mpr hv) q⟩)
  · refine ⟨.int (-2), sBad σ, sc_bad fun d b I L hc => ?_, sr_bad fun d b I L hc => ?_, hi, Or.inl ⟨rfl, _, rfl⟩⟩
    · exact zCall.of okX11_hurt (Nat.le_of_ble_eq_true rfl) ⟨Nat.le_refl _, Nat.le_refl _⟩ (fun G => tX11_hurt_0 (d := d + 39) hc.1 zR0.w ⟨fun q => absurd (e1.mp q) hv, fun _ => xBad _⟩)
    · exact zCall.of okX12_hurt (Nat.le_of_ble_eq_true rfl) ⟨Nat.le_refl _, Nat.le_refl _⟩ (fun G => tX12_hurt_0 (d := d + 39) zR0.w ⟨fun q => absurd (r1.mp q) hv, fun _ => yBad⟩)
/-- what count tells -/
def scount (σ : zσ) (k : Nat) : Nat := if k = 5 then σ.2.1.1 else σ.1 k
theorem kX11_amountOf {d b k : Nat} {I : Nat → Nat → Int32} {L : Nat → Nat → Int64} {σ : zσ} (hc : zCl b I L σ) (hk : k ≤ 5) : zCall d mX11_amountOf [.ref 0, .int (nI k)] (zh b I L) (some (.int (nI (scount σ k))), zh b I L) := by
  obtain ⟨hb, ⟨⟨a0, a1, a2, a3, a4⟩, -⟩, ⟨ht, -⟩, -⟩ := hc
  have n : ∀ {x y : Nat}, x < 1000 → y < 1000 → x ≠ y → ¬ nI x = nI y := fun hx hy h q => h ((nI_eq (by omega) (by omega)).mp q)
  refine zCall.of okX11_amountOf (Nat.le_of_ble_eq_true rfl) ⟨Nat.le_refl _, Nat.le_refl _⟩ (fun G => tX11_amountOf_0 hb ?_)
  rcases (by omega : k = 0 ∨ k = 1 ∨ k = 2 ∨ k = 3 ∨ k = 4 ∨ k = 5) with rfl | rfl | rfl | rfl | rfl | rfl
  · exact ⟨fun q => absurd q (by decide), fun _ => by rw [show I b 0 = nI (σ.1 0) from a0]; rfl, fun q => absurd q (by decide), fun q => absurd q (by decide), fun q => absurd q (by decide), fun q => absurd q (by decide)⟩
  · exact ⟨fun q => absurd q (by decide), fun q => absurd q (by decide), fun _ => by rw [show I b 1 = nI (σ.1 1) from a1]; rfl, fun q => absurd q (by decide), fun q => absurd q (by decide), fun q => absurd q (by decide)⟩
  · exact ⟨fun q => absurd q (by decide), fun q => absurd q (by decide), fun q => absurd q (by decide), fun _ => by rw [show I b 2 = nI (σ.1 2) from a2]; rfl, fun q => absurd q (by decide), fun q => absurd q (by decide)⟩
  · exact ⟨fun q => absurd q (by decide), fun q => absurd q (by decide), fun q => absurd q (by decide), fun q => absurd q (by decide), fun _ => by rw [show I b 3 = nI (σ.1 3) from a3]; rfl, fun q => absurd q (by decide)⟩
  · exact ⟨fun q => absurd q (by decide), fun q => absurd q (by decide), fun q => absurd q (by decide), fun q => absurd q (by decide), fun q => absurd q (by decide), fun _ => by rw [show I b 4 = nI (σ.1 4) from a4]; rfl⟩
  · exact ⟨fun _ => by rw [ht]; rfl, fun q => absurd q (by decide), fun q => absurd q (by decide), fun q => absurd q (by decide), fun q => absurd q (by decide), fun q => absurd q (by decide)⟩
theorem kX12_counted {d b k : Nat} {I : Nat → Nat → Int32} {L : Nat → Nat → Int64} {σ : zσ} (hc : zRf I L σ) (hk : k ≤ 5) : zCall d mX12_counted [.ref 56, .int (nI k)] (zh b I L) (some (.int (nI (scount σ k))), zh b I L) := by
  obtain ⟨hw, ⟨ht, -⟩, -⟩ := hc
  refine zCall.of okX12_counted (Nat.le_of_ble_eq_true rfl) ⟨Nat.le_refl _, Nat.le_refl _⟩ (fun G => tX12_counted_0 ?_)
  rw [hw 0 (by decide), hw 1 (by decide), hw 2 (by decide), hw 3 (by decide), hw 4 (by decide), ht]
  rcases (by omega : k = 0 ∨ k = 1 ∨ k = 2 ∨ k = 3 ∨ k = 4 ∨ k = 5) with rfl | rfl | rfl | rfl | rfl | rfl
  · exact ⟨fun _ => ⟨fun q => absurd (by decide) q, fun _ => rfl⟩, fun q => absurd q (by decide)⟩
  · exact ⟨fun _ => ⟨fun _ => ⟨fun q => absurd (by decide) q, fun _ => rfl⟩, fun q => absurd q (by decide)⟩, fun q => absurd q (by decide)⟩
  · exact ⟨fun _ => ⟨fun _ => ⟨fun _ => ⟨fun q => absurd (by decide) q, fun _ => rfl⟩, fun q => absurd q (by decide)⟩, fun q => absurd q (by decide)⟩, fun q => absurd q (by decide)⟩
  · exact ⟨fun _ => ⟨fun _ => ⟨fun _ => ⟨fun _ => ⟨fun q => absurd (by decide) q, fun _ => rfl⟩, fun q => absurd q (by decide)⟩, fun q => absurd q (by decide)⟩, fun q => absurd q (by decide)⟩, fun q => absurd q (by decide)⟩
  · exact ⟨fun _ => ⟨fun _ => ⟨fun _ => ⟨fun _ => ⟨fun _ => rfl, fun q => absurd q (by decide)⟩, fun q => absurd q (by decide)⟩, fun q => absurd q (by decide)⟩, fun q => absurd q (by decide)⟩, fun q => absurd q (by decide)⟩
  · exact ⟨fun q => absurd (by decide) q, fun _ => rfl⟩
theorem p_count (x1 : Int32) : zPair mX11_count mX12_count [.int x1] := by
  refine zPair.of fun σ hi => ?_
  have e1 : (0 ≤ x1 ∧ x1 ≤ 5) ↔ zin x1 0 5 := zin_c (lo := 0) (hi := 5) (by decide) (by decide)
  have r1 : (0 ≤ x1.toInt64 ∧ x1.toInt64 ≤ 5) ↔ zin x1 0 5 := zin_r (lo := 0) (hi := 5) (by decide) (by decide)
  by_cases hv : zin x1 0 5
  · obtain ⟨k, -, hk, hxk⟩ := hv.nat (by decide)
    refine ⟨.int (nI (scount σ k)), σ, sc_same fun d b I L hc => ?_, sr_same fun d b I L hc => ?_, hi, Or.inl ⟨rfl, _, rfl⟩⟩
    · refine zCall.of okX11_count (Nat.le_of_ble_eq_true rfl) ⟨Nat.le_refl _, Nat.le_refl _⟩ (fun G => tX11_count_0 (d := d + 39) zR0.w ⟨fun q => absurd (e1.mpr hv) q, fun _ => ⟨_, ?_, rfl⟩⟩)
      rw [hxk]
      exact kX11_amountOf hc hk
    · refine zCall.of okX12_count (Nat.le_of_ble_eq_true rfl) ⟨Nat.le_refl _, Nat.le_refl _⟩ (fun G => tX12_count_0 (d := d + 39) zR0.w ⟨fun q => absurd (r1.mpr hv) q, fun _ => ⟨_, ?_, rfl⟩⟩)
      rw [hxk]
      exact kX12_counted hc hk
  · refine ⟨.int (-2), sBad σ, sc_bad fun d b I L hc => ?_, sr_bad fun d b I L hc => ?_, hi, Or.inl ⟨rfl, _, rfl⟩⟩
    · exact zCall.of okX11_count (Nat.le_of_ble_eq_true rfl) ⟨Nat.le_refl _, Nat.le_refl _⟩ (fun G => tX11_count_0 (d := d + 39) zR0.w ⟨fun _ => xBad _, fun q => absurd (e1.mp q) hv⟩)
    · exact zCall.of okX12_count (Nat.le_of_ble_eq_true rfl) ⟨Nat.le_refl _, Nat.le_refl _⟩ (fun G => tX12_count_0 (d := d + 39) zR0.w ⟨fun _ => yBad, fun q => absurd (r1.mp q) hv⟩)
