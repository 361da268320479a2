/-! pairs: at, clear, heal, part, status, count -/
theorem zcellC (r l : Nat) : nI r * 6 + nI l = nI (6 * r + l) := by rw [show (6 : Int32) = nI 6 from rfl, pk_mul, nI_add, Nat.mul_comm]
theorem zlineC (i r : Nat) : nI i * 8 + nI r = nI (8 * i + r) := by rw [show (8 : Int32) = nI 8 from rfl, pk_mul, nI_add, Nat.mul_comm]
theorem zwayC (i r : Nat) : nI i * 9 + nI r = nI (9 * i + r) := by rw [show (9 : Int32) = nI 9 from rfl, pk_mul, nI_add, Nat.mul_comm]
theorem zcaR {a : Nat} (ha : a < 2 ^ 31) (r l : Nat) : zca (nI a) (nI r) (nI l) = nI ((if a = 0 then 5 else 53) + (6 * r + l)) := by
  unfold zca
  by_cases h : a = 0
  · subst h
    rw [if_pos rfl, if_pos (show nI 0 = (0 : Int32) from rfl), show (5 : Int32) = nI 5 from rfl, show (6 : Int32) = nI 6 from rfl, pk_mul, nI_add, nI_add, Nat.add_assoc]
  · rw [if_neg (nI_ne0 (by omega) ha), if_neg h, show (53 : Int32) = nI 53 from rfl, show (6 : Int32) = nI 6 from rfl, pk_mul, nI_add, nI_add, Nat.add_assoc]
theorem zlineR (i r : Nat) : (119 : Int32) + 8 * nI i + nI r = nI (119 + 8 * i + r) := by rw [show (119 : Int32) = nI 119 from rfl, show (8 : Int32) = nI 8 from rfl, pk_mul, nI_add, nI_add]
section P1
variable {d b : Nat} {I : Nat → Nat → Int32} {L : Nat → Nat → Int64} {σ : zσ}
theorem xBad (c : Int32) : ∃ (r : Int32) (I' : Nat → Nat → Int32), zCall d mX11_refuseBad [.ref 0, .int c] (zh b I L) (some (.int r), zh b I' L) ∧ ((some (.int c), zh b (zup I 0 12 (I 0 12 + 1)) L) : zR) = (some (.int r), zh b I' L) := ⟨_, _, kX11_refuseBad _, rfl⟩
theorem xNo (c : Int32) : ∃ (r : Int32) (I' : Nat → Nat → Int32), zCall d mX11_refuseNo [.ref 0, .int c] (zh b I L) (some (.int r), zh b I' L) ∧ ((some (.int c), zh b (zup I 0 13 (I 0 13 + 1)) L) : zR) = (some (.int r), zh b I' L) := ⟨_, _, kX11_refuseNo _, rfl⟩
theorem xFull : ∃ (r : Int32) (I' : Nat → Nat → Int32), zCall d mX11_refuseFull [.ref 0] (zh b I L) (some (.int r), zh b I' L) ∧ ((some (.int (-4)), zh b (zup I 0 14 (I 0 14 + 1)) L) : zR) = (some (.int r), zh b I' L) := ⟨_, _, kX11_refuseFull, rfl⟩
theorem yBad : ∃ (r : Int32) (I' : Nat → Nat → Int32), zCall d mX12_refuse [.ref 56, .int (-2)] (zh b I L) (some (.int r), zh b I' L) ∧ ((some (.int (-2)), zh b (zup I 62 0 (I 62 0 + 1)) L) : zR) = (some (.int r), zh b I' L) := ⟨_, _, kX12_refuseB, rfl⟩
theorem yNo : ∃ (r : Int32) (I' : Nat → Nat → Int32), zCall d mX12_refuse [.ref 56, .int (-3)] (zh b I L) (some (.int r), zh b I' L) ∧ ((some (.int (-3)), zh b (zup I 62 1 (I 62 1 + 1)) L) : zR) = (some (.int r), zh b I' L) := ⟨_, _, kX12_refuseN, rfl⟩
theorem yFull : ∃ (r : Int32) (I' : Nat → Nat → Int32), zCall d mX12_refuse [.ref 56, .int (-4)] (zh b I L) (some (.int r), zh b I' L) ∧ ((some (.int (-4)), zh b (zup I 62 2 (I 62 2 + 1)) L) : zR) = (some (.int r), zh b I' L) := ⟨_, _, kX12_refuseF, rfl⟩
theorem sc_bad {mc : zM} {av : List Value} {r : Value} (h : ∀ (d b : Nat) (I : Nat → Nat → Int32) (L : Nat → Nat → Int64), zCl b I L σ → zCall (d + 40) mc (.ref 0 :: av) (zh b I L) (some r, zh b (zup I 0 12 (I 0 12 + 1)) L)) : zSC mc av σ r (sBad σ) := fun d b I L hc => ⟨b, _, L, h d b I L hc, hc.bad, zhi.rf.up (by decide), zhiL.rf⟩
theorem sc_no {mc : zM} {av : List Value} {r : Value} (h : ∀ (d b : Nat) (I : Nat → Nat → Int32) (L : Nat → Nat → Int64), zCl b I L σ → zCall (d + 40) mc (.ref 0 :: av) (zh b I L) (some r, zh b (zup I 0 13 (I 0 13 + 1)) L)) : zSC mc av σ r (sNo σ) := fun d b I L hc => ⟨b, _, L, h d b I L hc, hc.no, zhi.rf.up (by decide), zhiL.rf⟩
theorem sc_full {mc : zM} {av : List Value} {r : Value} (h : ∀ (d b : Nat) (I : Nat → Nat → Int32) (L : Nat → Nat → Int64), zCl b I L σ → zCall (d + 40) mc (.ref 0 :: av) (zh b I L) (some r, zh b (zup I 0 14 (I 0 14 + 1)) L)) : zSC mc av σ r (sFull σ) := fun d b I L hc => ⟨b, _, L, h d b I L hc, hc.full, zhi.rf.up (by decide), zhiL.rf⟩
theorem sr_bad {mr : zM} {av : List Value} {r : Value} (h : ∀ (d b : Nat) (I : Nat → Nat → Int32) (L : Nat → Nat → Int64), zRf I L σ → zCall (d + 40) mr (.ref 56 :: av) (zh b I L) (some r, zh b (zup I 62 0 (I 62 0 + 1)) L)) : zSR mr av σ r (sBad σ) := fun d b I L hc => ⟨_, L, h d b I L hc, hc.bad, zlo.rf.up (by decide), zloL.rf⟩
theorem sr_no {mr : zM} {av : List Value} {r : Value} (h : ∀ (d b : Nat) (I : Nat → Nat → Int32) (L : Nat → Nat → Int64), zRf I L σ → zCall (d + 40) mr (.ref 56 :: av) (zh b I L) (some r, zh b (zup I 62 1 (I 62 1 + 1)) L)) : zSR mr av σ r (sNo σ) := fun d b I L hc => ⟨_, L, h d b I L hc, hc.no, zlo.rf.up (by decide), zloL.rf⟩
theorem sr_full {mr : zM} {av : List Value} {r : Value} (h : ∀ (d b : Nat) (I : Nat → Nat → Int32) (L : Nat → Nat → Int64), zRf I L σ → zCall (d + 40) mr (.ref 56 :: av) (zh b I L) (some r, zh b (zup I 62 2 (I 62 2 + 1)) L)) : zSR mr av σ r (sFull σ) := fun d b I L hc => ⟨_, L, h d b I L hc, hc.full, zlo.rf.up (by decide), zloL.rf⟩
/-- the state stays -/
theorem sc_same {mc : zM} {av : List Value} {r : Value} (h : ∀ (d b : Nat) (I : Nat → Nat → Int32) (L : Nat → Nat → Int64), zCl b I L σ → zCall (d + 40) mc (.ref 0 :: av) (zh b I L) (some r, zh b I L)) : zSC mc av σ r σ := fun d b I L hc => ⟨b, _, L, h d b I L hc, hc, zhi.rf, zhiL.rf⟩
theorem sr_same {mr : zM} {av : List Value} {r : Value} (h : ∀ (d b : Nat) (I : Nat → Nat → Int32) (L : Nat → Nat → Int64), zRf I L σ → zCall (d + 40) mr (.ref 56 :: av) (zh b I L) (some r, zh b I L)) : zSR mr av σ r σ := fun d b I L hc => ⟨_, L, h d b I L hc, hc, zlo.rf, zloL.rf⟩
theorem e01 {x : Int32} : (0 ≤ x ∧ x ≤ 1) ↔ zin x 0 1 := zin_c (lo := 0) (hi := 1) (by decide) (by decide)
theorem e01r {x : Int32} : (0 ≤ x.toInt64 ∧ x.toInt64 ≤ 1) ↔ zin x 0 1 := zin_r (lo := 0) (hi := 1) (by decide) (by decide)
end P1
theorem p_at (x1 x2 x3 : Int32) : zPair mX11_at mX12_at [.int x1, .int x2, .int x3] := by
  refine zPair.of fun σ hi => ?_
  obtain ⟨⟨⟨hw0, hw1, hw2, hw3, hw4⟩, -⟩, -⟩ := id hi
  have f1 : ∀ {b : Nat} {I : Nat → Nat → Int32} {L : Nat → Nat → Int64}, zCl b I L σ → (((0 ≤ x2 ∧ x2 ≤ I b 0 - 1) ∧ (0 ≤ x3 ∧ x3 ≤ I b 1 - 1)) ↔ (zof x2 (σ.1 0) ∧ zof x3 (σ.1 1))) := by
    intro b I L hc
    rw [show I b 0 = nI (σ.1 0) from hc.2.1.1.1, show I b 1 = nI (σ.1 1) from hc.2.1.1.2.1, zof_c (by omega), zof_c (by omega)]
  have f2 : ∀ {I : Nat → Nat → Int32} {L : Nat → Nat → Int64}, zRf I L σ → (((0 ≤ x2.toInt64 ∧ x2.toInt64 ≤ (I 57 0 - 1).toInt64) ∧ (0 ≤ x3.toInt64 ∧ x3.toInt64 ≤ (I 57 1 - 1).toInt64)) ↔ (zof x2 (σ.1 0) ∧ zof x3 (σ.1 1))) := by
    intro I L hc
    rw [hc.1 0 (by decide), hc.1 1 (by decide), zof_r (by omega), zof_r (by omega)]
  by_cases hv : zin x1 0 1 ∧ (zof x2 (σ.1 0) ∧ zof x3 (σ.1 1))
  · obtain ⟨a, -, ha, hxa⟩ := hv.1.nat (by decide)
    obtain ⟨r, hr, hxr⟩ := hv.2.1.nat (by omega)
    obtain ⟨l, hl, hxl⟩ := hv.2.2.nat (by omega)
    refine ⟨.int (nI (σ.1 ((if a = 0 then 5 else 53) + (6 * r + l)))), σ, sc_same fun d b I L hc => ?_, sr_same fun d b I L hc => ?_, hi, Or.inl ⟨rfl, _, rfl⟩⟩
    · refine zCall.of okX11_at (Nat.le_of_ble_eq_true rfl) ⟨Nat.le_refl _, Nat.le_refl _⟩ (fun G => tX11_at_0 (d := d + 37) hc.1 zR0.w ⟨fun q => absurd (e01.mpr hv.1) q, fun _ => ⟨fun _ => ?_, fun q => absurd ((f1 hc).mpr hv.2) q⟩⟩)
      rw [hxa, hxr, hxl, zcellC, zx_nI (by omega)]
      refine ⟨fun q => ⟨zv_in (by omega) (by decide), ?_⟩, fun q => ⟨zv_in (by omega) (by decide), ?_⟩⟩
      · have hq : ¬ a = 0 := fun z => q (by rw [z]; rfl)
        rw [if_neg hq, show I (b + 2) (6 * r + l) = nI (σ.1 (53 + (6 * r + l))) from hc.2.1.2.2.1 (6 * r + l) (by omega)]
      · have hq : a = 0 := by
          rcases Nat.eq_zero_or_pos a with z | z
          · exact z
          · exact absurd q (nI_ne0 z (by omega))
        rw [if_pos hq, show I (b + 1) (6 * r + l) = nI (σ.1 (5 + (6 * r + l))) from hc.2.1.2.1 (6 * r + l) (by omega)]
    · refine zCall.of okX12_at (Nat.le_of_ble_eq_true rfl) ⟨Nat.le_refl _, Nat.le_refl _⟩ (fun G => tX12_at_0 (d := d + 38) zR0.w ⟨fun q => absurd (e01r.mpr hv.1) q, fun _ => ⟨fun q => absurd ((f2 hc).mpr hv.2) q, fun _ => ?_⟩⟩)
      have hlt : (if a = 0 then 5 else 53) + (6 * r + l) < 463 := by split <;> omega
      rw [hxa, hxr, hxl, zcaR (by omega), zx_nI (by omega), hc.1 _ hlt]
      exact ⟨zv_in hlt (by decide), rfl⟩
  · refine ⟨.int (-2), sBad σ, sc_bad fun d b I L hc => ?_, sr_bad fun d b I L hc => ?_, hi, Or.inl ⟨rfl, _, rfl⟩⟩
    · exact zCall.of okX11_at (Nat.le_of_ble_eq_true rfl) ⟨Nat.le_refl _, Nat.le_refl _⟩ (fun G => tX11_at_0 (d := d + 37) hc.1 zR0.w ⟨fun _ => xBad _, fun q1 => ⟨fun q2 => absurd ⟨e01.mp q1, (f1 hc).mp q2⟩ hv, fun _ => xBad _⟩⟩)
    · exact zCall.of okX12_at (Nat.le_of_ble_eq_true rfl) ⟨Nat.le_refl _, Nat.le_refl _⟩ (fun G => tX12_at_0 (d := d + 38) zR0.w ⟨fun _ => yBad, fun q1 => ⟨fun _ => yBad, fun q2 => absurd ⟨e01r.mp q1, (f2 hc).mp q2⟩ hv⟩⟩)
theorem p_clear : zPair mX11_clear mX12_clear [] := by
  refine zPair.of fun σ hi => ?_
  refine ⟨.int (nI σ.2.1.1), (σ.1, (0, σ.2.1.2), σ.2.2), fun d b I L hc => ⟨b, zup I 53 1 0, L, ?_, ?_, zhi.rf.up (by decide), zhiL.rf⟩, fun d b I L hc => ⟨zup I 56 5 0, L, ?_, ?_, zlo.rf.up (by decide), zloL.rf⟩, ?_, Or.inl ⟨rfl, _, rfl⟩⟩
  · exact zCall.of okX11_clear (Nat.le_of_ble_eq_true rfl) ⟨Nat.le_refl _, Nat.le_refl _⟩ (fun G => tX11_clear_0 (by rw [hc.2.2.1.1]))
  · obtain ⟨h1, h2, h3, h4, h5, h6, h7⟩ := hc
    have hb : b ≤ 10 := by rcases h1 with rfl | rfl <;> omega
    refine ⟨h1, h2.congr (fun k hk => zat_up (by omega) hk), ⟨by simp [zup]; rfl, fun k hk => absurd hk (Nat.not_lt_zero k)⟩, h4, ?_, h6.congr (fun k hk => zat_up (by omega) hk), h7.congr (fun k hk => zat_up (by omega) hk)⟩
    rw [zup_ne (by decide)]
    exact h5
  · exact zCall.of okX12_clear (Nat.le_of_ble_eq_true rfl) ⟨Nat.le_refl _, Nat.le_refl _⟩ (fun G => tX12_clear_0 (by rw [hc.2.1.1]))
  · obtain ⟨h1, h2, h3, h4, h5, h6⟩ := hc
    unfold zRf
    rw [zup_ne (a := 57) (by decide), zup_ne (a := 61) (by decide), zup_ne (a := 62) (by decide), zup_ne (a := 60) (by decide), zup_ne (a := 59) (by decide)]
    exact ⟨h1, ⟨by simp [zup]; rfl, fun k hk => absurd hk (Nat.not_lt_zero k)⟩, h3, h4, h5, h6⟩
  · exact ⟨hi.1, ⟨Nat.zero_le _, fun k hk => absurd hk (Nat.not_lt_zero k)⟩, hi.2.2⟩
theorem p_part (x1 : Int32) : zPair mX11_part mX12_part [.int x1] := by
  refine zPair.of fun σ hi => ?_
  by_cases h0 : x1 = 0
  · subst h0
    refine ⟨.long σ.2.2.1.1, σ, sc_same fun d b I L hc => ?_, sr_same fun d b I L hc => ?_, hi, Or.inr ⟨rfl, _, rfl⟩⟩
    · exact zCall.of okX11_part (Nat.le_of_ble_eq_true rfl) ⟨Nat.le_refl _, Nat.le_refl _⟩ (fun G => tX11_part_0 (d := d + 39) zR0.w ⟨fun _ => ⟨fun q => absurd rfl q, fun _ => by rw [hc.2.2.2.1.1]⟩, fun q => absurd (by decide) q⟩)
    · exact zCall.of okX12_part (Nat.le_of_ble_eq_true rfl) ⟨Nat.le_refl _, Nat.le_refl _⟩ (fun G => tX12_part_0 (d := d + 39) zR0.w ⟨fun q => absurd rfl q, fun _ => by rw [hc.2.2.1.1]⟩)
  · by_cases h1 : x1 = 1
    · subst h1
      refine ⟨.long σ.2.2.1.2, σ, sc_same fun d b I L hc => ?_, sr_same fun d b I L hc => ?_, hi, Or.inr ⟨rfl, _, rfl⟩⟩
      · exact zCall.of okX11_part (Nat.le_of_ble_eq_true rfl) ⟨Nat.le_refl _, Nat.le_refl _⟩ (fun G => tX11_part_0 (d := d + 39) zR0.w ⟨fun _ => ⟨fun _ => by rw [hc.2.2.2.1.2], fun q => absurd q (by decide)⟩, fun q => absurd (by decide) q⟩)
      · exact zCall.of okX12_part (Nat.le_of_ble_eq_true rfl) ⟨Nat.le_refl _, Nat.le_refl _⟩ (fun G => tX12_part_0 (d := d + 39) zR0.w ⟨fun _ => ⟨fun q => absurd rfl q, fun _ => by rw [hc.2.2.1.2]⟩, fun q => absurd q (by decide)⟩)
    · have hz : ¬ (0 ≤ x1 ∧ x1 ≤ 1) := fun q => by
        obtain ⟨k, -, hk, rfl⟩ := (e01.mp q).nat (by decide)
        rcases (by omega : k = 0 ∨ k = 1) with rfl | rfl
        · exact h0 rfl
        · exact h1 rfl
      refine ⟨.long (-2), sBad σ, sc_bad fun d b I L hc => ?_, sr_bad fun d b I L hc => ?_, hi, Or.inr ⟨rfl, _, rfl⟩⟩
      · exact zCall.of okX11_part (Nat.le_of_ble_eq_true rfl) ⟨Nat.le_refl _, Nat.le_refl _⟩ (fun G => tX11_part_0 (d := d + 39) zR0.w ⟨fun q => absurd q hz, fun _ => ⟨_, _, kX11_refuseBad _, rfl⟩⟩)
      · exact zCall.of okX12_part (Nat.le_of_ble_eq_true rfl) ⟨Nat.le_refl _, Nat.le_refl _⟩ (fun G => tX12_part_0 (d := d + 39) zR0.w ⟨fun _ => ⟨fun _ => ⟨_, _, kX12_refuseB, rfl⟩, fun q => absurd q h1⟩, fun q => absurd q h0⟩)
theorem p_status (x1 : Int32) : zPair mX11_status mX12_status [.int x1] := by
  refine zPair.of fun σ hi => ?_
  have e2 : (0 ≤ x1.toInt64 ∧ x1.toInt64 ≤ 2) ↔ zin x1 0 2 := zin_r (lo := 0) (hi := 2) (by decide) (by decide)
  by_cases hv : zin x1 0 2
  · obtain ⟨k, -, hk, rfl⟩ := hv.nat (by decide)
    rcases (by omega : k = 0 ∨ k = 1 ∨ k = 2) with rfl | rfl | rfl
    · refine ⟨.int σ.2.2.2.1.1, σ, sc_same fun d b I L hc => ?_, sr_same fun d b I L hc => ?_, hi, Or.inl ⟨rfl, _, rfl⟩⟩
      · exact zCall.of okX11_status (Nat.le_of_ble_eq_true rfl) ⟨Nat.le_refl _, Nat.le_refl _⟩ (fun G => tX11_status_0 (d := d + 39) zR0.w ⟨fun q => absurd q (by decide), fun _ => by rw [hc.2.2.2.2.1.1], fun q => absurd q (by decide), fun q => absurd q (by decide)⟩)
      · exact zCall.of okX12_status (Nat.le_of_ble_eq_true rfl) ⟨Nat.le_refl _, Nat.le_refl _⟩ (fun G => tX12_status_0 (d := d + 39) zR0.w ⟨fun q => absurd (e2.mpr hv) q, fun _ => ⟨zv_in (by decide) (by decide), by rw [zx_nI (by decide), hc.2.2.2.1.1]⟩⟩)
    · refine ⟨.int σ.2.2.2.1.2.1, σ, sc_same fun d b I L hc => ?_, sr_same fun d b I L hc => ?_, hi, Or.inl ⟨rfl, _, rfl⟩⟩
      · exact zCall.of okX11_status (Nat.le_of_ble_eq_true rfl) ⟨Nat.le_refl _, Nat.le_refl _⟩ (fun G => tX11_status_0 (d := d + 39) zR0.w ⟨fun q => absurd q (by decide), fun q => absurd q (by decide), fun _ => by rw [hc.2.2.2.2.1.2.1], fun q => absurd q (by decide)⟩)
      · exact zCall.of okX12_status (Nat.le_of_ble_eq_true rfl) ⟨Nat.le_refl _, Nat.le_refl _⟩ (fun G => tX12_status_0 (d := d + 39) zR0.w ⟨fun q => absurd (e2.mpr hv) q, fun _ => ⟨zv_in (by decide) (by decide), by rw [zx_nI (by decide), hc.2.2.2.1.2.1]⟩⟩)
    · refine ⟨.int σ.2.2.2.1.2.2, σ, sc_same fun d b I L hc => ?_, sr_same fun d b I L hc => ?_, hi, Or.inl ⟨rfl, _, rfl⟩⟩
      · exact zCall.of okX11_status (Nat.le_of_ble_eq_true rfl) ⟨Nat.le_refl _, Nat.le_refl _⟩ (fun G => tX11_status_0 (d := d + 39) zR0.w ⟨fun q => absurd q (by decide), fun q => absurd q (by decide), fun q => absurd q (by decide), fun _ => by rw [hc.2.2.2.2.1.2.2]⟩)
      · exact zCall.of okX12_status (Nat.le_of_ble_eq_true rfl) ⟨Nat.le_refl _, Nat.le_refl _⟩ (fun G => tX12_status_0 (d := d + 39) zR0.w ⟨fun q => absurd (e2.mpr hv) q, fun _ => ⟨zv_in (by decide) (by decide), by rw [zx_nI (by decide), hc.2.2.2.1.2.2]⟩⟩)
  · refine ⟨.int (-1), sBad σ, sc_bad fun d b I L hc => ?_, sr_bad fun d b I L hc => ?_, hi, Or.inl ⟨rfl, _, rfl⟩⟩
    · refine zCall.of okX11_status (Nat.le_of_ble_eq_true rfl) ⟨Nat.le_refl _, Nat.le_refl _⟩ (fun G => tX11_status_0 (d := d + 39) zR0.w ⟨fun _ => xBad _, fun q => absurd ?_ hv, fun q => absurd ?_ hv, fun q => absurd ?_ hv⟩)
      all_goals (rw [q]; unfold zin; decide)
    · exact zCall.of okX12_status (Nat.le_of_ble_eq_true rfl) ⟨Nat.le_refl _, Nat.le_refl _⟩ (fun G => tX12_status_0 (d := d + 39) zR0.w ⟨fun _ => ⟨_, _, kX12_refuseB, rfl⟩, fun q => absurd (e2.mp q) hv⟩)
