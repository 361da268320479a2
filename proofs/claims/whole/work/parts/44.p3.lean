/-! pairs: hill, put, line, heal, hurt, count -/
theorem p_hill (x1 x2 : Int32) : zPair mX11_hill mX12_hill [.int x1, .int x2] := by
  refine zPair.of fun σ hi => ?_
  have e1 : (1 ≤ x1 ∧ x1 ≤ 8) ↔ zin x1 1 8 := zin_c (lo := 1) (hi := 8) (by decide) (by decide)
  have e2 : (1 ≤ x2 ∧ x2 ≤ 6) ↔ zin x2 1 6 := zin_c (lo := 1) (hi := 6) (by decide) (by decide)
  have e3 : (1 ≤ x1.toInt64 ∧ x1.toInt64 ≤ 8) ↔ zin x1 1 8 := zin_r (lo := 1) (hi := 8) (by decide) (by decide)
  have e4 : (1 ≤ x2.toInt64 ∧ x2.toInt64 ≤ 6) ↔ zin x2 1 6 := zin_r (lo := 1) (hi := 6) (by decide) (by decide)
  by_cases hv : zin x1 1 8 ∧ zin x2 1 6
  · obtain ⟨h, h1, h2, hx1⟩ := hv.1.nat (by decide)
    obtain ⟨w, w1, w2, hx2⟩ := hv.2.nat (by decide)
    refine ⟨.int 1, (wcl h w, σ.2), fun d b I L hc => ⟨b, zlay I b x1 x2, L, ?_, ?_, ?_, zhiL.rf⟩, fun d b I L hc => ⟨zcln I 57 (fun k => nI (wcl h w k)) 463, L, ?_, ?_, ?_, zloL.rf⟩, ?_, Or.inl ⟨rfl, _, rfl⟩⟩
    · exact zCall.of okX11_hill (Nat.le_of_ble_eq_true rfl) ⟨Nat.le_refl _, Nat.le_refl _⟩ (fun G => tX11_hill_0 (d := d + 38) hc.1 zR0.w ⟨fun q => absurd (e1.mpr hv.1) q, fun _ => ⟨fun _ => ⟨_, kX4_layOut hc.1.hl _ _, rfl⟩, fun q => absurd (e2.mpr hv.2) q⟩⟩)
    · subst hx1; subst hx2
      exact hc.land hr_lay (fun i h1 _ => zlay_ne h1)
    · intro i hi2
      exact zlay_ne (by have := hc.1.le; omega)
    · subst hx1; subst hx2
      exact zCall.of okX12_hill (Nat.le_of_ble_eq_true rfl) ⟨Nat.le_refl _, Nat.le_refl _⟩ (fun G => tX12_hill_0 (d := d + 38) zR0.w ⟨fun q => absurd (e3.mpr hv.1) q, fun _ => ⟨fun _ => ⟨_, kX12_clean rfl (by decide) _ _, rfl⟩, fun q => absurd (e4.mpr hv.2) q⟩⟩)
    · refine hc.now (fun k hk => ?_) ⟨by rw [zcln_ne (by decide)], fun i hi2 => zcln_ne (by omega)⟩
      simp [zcln, hk]
    · intro i hi2
      exact zcln_ne (by omega)
    · exact ⟨winv_cl ⟨h1, h2⟩ ⟨w1, w2⟩, hi.2⟩
  · refine ⟨.int (-2), sBad σ, sc_bad fun d b I L hc => ?_, sr_bad fun d b I L hc => ?_, hi, Or.inl ⟨rfl, _, rfl⟩⟩
    · exact zCall.of okX11_hill (Nat.le_of_ble_eq_true rfl) ⟨Nat.le_refl _, Nat.le_refl _⟩ (fun G => tX11_hill_0 (d := d + 38) hc.1 zR0.w ⟨fun _ => xBad _, fun q1 => ⟨fun q2 => absurd ⟨e1.mp q1, e2.mp q2⟩ hv, fun _ => xBad _⟩⟩)
    · exact zCall.of okX12_hill (Nat.le_of_ble_eq_true rfl) ⟨Nat.le_refl _, Nat.le_refl _⟩ (fun G => tX12_hill_0 (d := d + 38) zR0.w ⟨fun _ => yBad, fun q1 => ⟨fun q2 => absurd ⟨e3.mp q1, e4.mp q2⟩ hv, fun _ => yBad⟩⟩)
theorem p_put (x1 x2 x3 x4 : Int32) : zPair mX11_put mX12_put [.int x1, .int x2, .int x3, .int x4] := by
  refine zPair.of fun σ hi => ?_
  obtain ⟨⟨⟨hw0, hw1, hw2, hw3, hw4⟩, -⟩, -⟩ := id hi
  have f1 : ∀ {b : Nat} {I : Nat → Nat → Int32} {L : Nat → Nat → Int64}, zCl b I L σ → (((0 ≤ x2 ∧ x2 ≤ I b 0 - 1) ∧ (0 ≤ x3 ∧ x3 ≤ I b 1 - 1)) ↔ (zof x2 (σ.1 0) ∧ zof x3 (σ.1 1))) := by
    intro b I L hc
    rw [show I b 0 = nI (σ.1 0) from hc.2.1.1.1, show I b 1 = nI (σ.1 1) from hc.2.1.1.2.1, zof_c (by omega), zof_c (by omega)]
  have f2 : ∀ {I : Nat → Nat → Int32} {L : Nat → Nat → Int64}, zRf I L σ → (((0 ≤ x2.toInt64 ∧ x2.toInt64 ≤ (I 57 0 - 1).toInt64) ∧ (0 ≤ x3.toInt64 ∧ x3.toInt64 ≤ (I 57 1 - 1).toInt64)) ↔ (zof x2 (σ.1 0) ∧ zof x3 (σ.1 1))) := by
    intro I L hc
    rw [hc.1 0 (by decide), hc.1 1 (by decide), zof_r (by omega), zof_r (by omega)]
  have e3 : (0 ≤ x4 ∧ x4 ≤ 3) ↔ zin x4 0 3 := zin_c (lo := 0) (hi := 3) (by decide) (by decide)
  have e9 : (0 ≤ x4 ∧ x4 ≤ 9) ↔ zin x4 0 9 := zin_c (lo := 0) (hi := 9) (by decide) (by decide)
  have r3 : (0 ≤ x4.toInt64 ∧ x4.toInt64 ≤ 3) ↔ zin x4 0 3 := zin_r (lo := 0) (hi := 3) (by decide) (by decide)
  have r9 : (0 ≤ x4.toInt64 ∧ x4.toInt64 ≤ 9) ↔ zin x4 0 9 := zin_r (lo := 0) (hi := 9) (by decide) (by decide)
  by_cases hv : (zin x1 0 1 ∧ (zof x2 (σ.1 0) ∧ zof x3 (σ.1 1))) ∧ (x1 = 0 → zin x4 0 9) ∧ (¬ x1 = 0 → zin x4 0 3)
  · obtain ⟨r, hr, hxr⟩ := hv.1.2.1.nat (by omega)
    obtain ⟨l, hl, hxl⟩ := hv.1.2.2.nat (by omega)
    by_cases h0 : x1 = 0
    · obtain ⟨v, -, hv9, hxv⟩ := (hv.2.1 h0).nat (by decide)
      refine ⟨.int (nI (σ.1 (5 + (6 * r + l)))), (wset σ.1 (5 + (6 * r + l)) v, σ.2), fun d b I L hc => ⟨b, zup I (b + 1) (6 * r + l) (nI v), L, ?_, ?_, ?_, zhiL.rf⟩, fun d b I L hc => ⟨zup I 57 (5 + (6 * r + l)) (nI v), L, ?_, ?_, zlo.rf.up (by decide), zloL.rf⟩, ⟨hi.1.slope (by omega) hv9, hi.2⟩, Or.inl ⟨rfl, _, rfl⟩⟩
      · refine zCall.of okX11_put (Nat.le_of_ble_eq_true rfl) ⟨Nat.le_refl _, Nat.le_refl _⟩ (fun G => tX11_put_0 (d := d + 37) hc.1 zR0.w ⟨fun q => absurd (e01.mpr hv.1.1) q, fun _ => ⟨fun q => absurd ((f1 hc).mpr hv.1.2) q, fun _ => ⟨fun q => absurd h0 q, fun _ => ⟨fun _ => ⟨fun q => absurd h0 q, fun _ => ?_⟩, fun q => absurd (e9.mpr (hv.2.1 h0)) q⟩⟩⟩⟩)
        rw [hxr, hxl, hxv, zcellC, zx_nI (by omega), show I (b + 1) (6 * r + l) = nI (σ.1 (5 + (6 * r + l))) from hc.2.1.2.1 (6 * r + l) (by omega)]
        exact ⟨zv_in (by omega) (by decide), zv_in (by omega) (by decide), rfl⟩
      · refine hc.land (hr_slope hc.2.1 (by omega) (fun k hk hk1 => ?_) ?_) (fun i h1 _ => zup_ne (by omega))
        · exact zup_ne (by omega)
        · exact zup_self _ _ _ _
      · exact zhi.rf.up (by have := hc.1.le; omega)
      · refine zCall.of okX12_put (Nat.le_of_ble_eq_true rfl) ⟨Nat.le_refl _, Nat.le_refl _⟩ (fun G => tX12_put_0 (d := d + 38) zR0.w ⟨fun q => absurd (e01r.mpr hv.1.1) q, fun _ => ⟨fun q => absurd ((f2 hc).mpr hv.1.2) q, fun _ => ⟨fun q => absurd h0 q, fun _ => ⟨fun _ => ?_, fun q => absurd (r9.mpr (hv.2.1 h0)) q⟩⟩⟩⟩)
        rw [h0, hxr, hxl, hxv, show (0 : Int32) = nI 0 from rfl, zcaR (by decide), if_pos rfl, zx_nI (by omega), hc.1 _ (by omega)]
        exact ⟨zv_in (by omega) (by decide), zv_in (by omega) (by decide), rfl⟩
      · exact hc.now (zup_now hc.1) ⟨by rw [zup_ne (by decide)], fun i hi2 => zup_ne (by omega)⟩
    · obtain ⟨v, -, hv3, hxv⟩ := (hv.2.2 h0).nat (by decide)
      obtain ⟨a, -, ha1, hxa⟩ := hv.1.1.nat (by decide)
      have ha : a = 1 := by
        rcases (by omega : a = 0 ∨ a = 1) with rfl | rfl
        · exact absurd hxa h0
        · rfl
      subst ha
      refine ⟨.int (nI (σ.1 (53 + (6 * r + l)))), (wset σ.1 (53 + (6 * r + l)) v, σ.2), fun d b I L hc => ⟨b, zup I (b + 2) (6 * r + l) (nI v), L, ?_, ?_, ?_, zhiL.rf⟩, fun d b I L hc => ⟨zup I 57 (53 + (6 * r + l)) (nI v), L, ?_, ?_, zlo.rf.up (by decide), zloL.rf⟩, ⟨hi.1.ground (by omega) hv3, hi.2⟩, Or.inl ⟨rfl, _, rfl⟩⟩
      · refine zCall.of okX11_put (Nat.le_of_ble_eq_true rfl) ⟨Nat.le_refl _, Nat.le_refl _⟩ (fun G => tX11_put_0 (d := d + 37) hc.1 zR0.w ⟨fun q => absurd (e01.mpr hv.1.1) q, fun _ => ⟨fun q => absurd ((f1 hc).mpr hv.1.2) q, fun _ => ⟨fun _ => ⟨fun _ => ⟨fun _ => ?_, fun q => absurd q h0⟩, fun q => absurd (e3.mpr (hv.2.2 h0)) q⟩, fun q => absurd q h0⟩⟩⟩)
        rw [hxr, hxl, hxv, zcellC, zx_nI (by omega), show I (b + 2) (6 * r + l) = nI (σ.1 (53 + (6 * r + l))) from hc.2.1.2.2.1 (6 * r + l) (by omega)]
        exact ⟨zv_in (by omega) (by decide), zv_in (by omega) (by decide), rfl⟩
      · refine hc.land (hr_ground hc.2.1 (by omega) (fun k hk hk1 => ?_) ?_) (fun i h1 _ => zup_ne (by omega))
        · exact zup_ne (by omega)
        · exact zup_self _ _ _ _
      · exact zhi.rf.up (by have := hc.1.le; omega)
      · refine zCall.of okX12_put (Nat.le_of_ble_eq_true rfl) ⟨Nat.le_refl _, Nat.le_refl _⟩ (fun G => tX12_put_0 (d := d + 38) zR0.w ⟨fun q => absurd (e01r.mpr hv.1.1) q, fun _ => ⟨fun q => absurd ((f2 hc).mpr hv.1.2) q, fun _ => ⟨fun _ => ⟨fun _ => ?_, fun q => absurd (r3.mpr (hv.2.2 h0)) q⟩, fun q => absurd q h0⟩⟩⟩)
        rw [hxa, hxr, hxl, hxv, zcaR (by decide), if_neg (by decide), zx_nI (by omega), hc.1 _ (by omega)]
        exact ⟨zv_in (by omega) (by decide), zv_in (by omega) (by decide), rfl⟩
      · exact hc.now (zup_now hc.1) ⟨by rw [zup_ne (by decide)], fun i hi2 => zup_ne (by omega)⟩
  · refine ⟨.int (-2), sBad σ, sc_bad fun d b I L hc => ?_, sr_bad fun d b I L hc => ?_, hi, Or.inl ⟨rfl, _, rfl⟩⟩
    · exact zCall.of okX11_put (Nat.le_of_ble_eq_true rfl) ⟨Nat.le_refl _, Nat.le_refl _⟩ (fun G => tX11_put_0 (d := d + 37) hc.1 zR0.w ⟨fun _ => xBad _, fun q1 => ⟨fun _ => xBad _, fun q2 => ⟨fun h0 => ⟨fun q3 => absurd ⟨⟨e01.mp q1, (f1 hc).mp q2⟩, fun z => absurd z h0, fun _ => e3.mp q3⟩ hv, fun _ => xBad _⟩, fun h0 => ⟨fun q3 => absurd ⟨⟨e01.mp q1, (f1 hc).mp q2⟩, fun _ => e9.mp q3, fun z => absurd h0 z⟩ hv, fun _ => xBad _⟩⟩⟩⟩)
    · exact zCall.of okX12_put (Nat.le_of_ble_eq_true rfl) ⟨Nat.le_refl _, Nat.le_refl _⟩ (fun G => tX12_put_0 (d := d + 38) zR0.w ⟨fun _ => yBad, fun q1 => ⟨fun _ => yBad, fun q2 => ⟨fun h0 => ⟨fun q3 => absurd ⟨⟨e01r.mp q1, (f2 hc).mp q2⟩, fun z => absurd z h0, fun _ => r3.mp q3⟩ hv, fun _ => yBad⟩, fun h0 => ⟨fun q3 => absurd ⟨⟨e01r.mp q1, (f2 hc).mp q2⟩, fun _ => r9.mp q3, fun z => absurd h0 z⟩ hv, fun _ => yBad⟩⟩⟩⟩)
theorem p_line (x1 x2 x3 : Int32) : zPair mX11_line mX12_line [.int x1, .int x2, .int x3] := by
  refine zPair.of fun σ hi => ?_
  obtain ⟨⟨⟨hw0, hw1, hw2, hw3, hw4⟩, -⟩, -⟩ := id hi
  have f1 : ∀ {b : Nat} {I : Nat → Nat → Int32} {L : Nat → Nat → Int64}, zCl b I L σ → ((0 ≤ x1 ∧ x1 ≤ I b 2 - 1) ↔ zof x1 (σ.1 2)) ∧ ((0 ≤ x2 ∧ x2 ≤ I b 0 - 1) ↔ zof x2 (σ.1 0)) := by
    intro b I L hc
    rw [show I b 0 = nI (σ.1 0) from hc.2.1.1.1, show I b 2 = nI (σ.1 2) from hc.2.1.1.2.2.1, zof_c (by omega), zof_c (by omega)]
    exact ⟨Iff.rfl, Iff.rfl⟩
  have f2 : ∀ {I : Nat → Nat → Int32} {L : Nat → Nat → Int64}, zRf I L σ → ((0 ≤ x1.toInt64 ∧ x1.toInt64 ≤ (I 57 2 - 1).toInt64) ↔ zof x1 (σ.1 2)) ∧ ((0 ≤ x2.toInt64 ∧ x2.toInt64 ≤ (I 57 0 - 1).toInt64) ↔ zof x2 (σ.1 0)) := by
    intro I L hc
    rw [hc.1 0 (by decide), hc.1 2 (by decide), zof_r (by omega), zof_r (by omega)]
    exact ⟨Iff.rfl, Iff.rfl⟩
  have e2 : (0 ≤ x3 ∧ x3 ≤ 2) ↔ zin x3 0 2 := zin_c (lo := 0) (hi := 2) (by decide) (by decide)
  have r2 : (0 ≤ x3.toInt64 ∧ x3.toInt64 ≤ 2) ↔ zin x3 0 2 := zin_r (lo := 0) (hi := 2) (by decide) (by decide)
  by_cases hv : zof x1 (σ.1 2) ∧ zof x2 (σ.1 0) ∧ zin x3 0 2
  · obtain ⟨i, hil, hxi⟩ := hv.1.nat (by omega)
    obtain ⟨r, hr, hxr⟩ := hv.2.1.nat (by omega)
    obtain ⟨v, -, hv2, hxv⟩ := hv.2.2.nat (by decide)
    refine ⟨.int (nI (σ.1 (119 + 8 * i + r))), (wset σ.1 (119 + 8 * i + r) v, σ.2), fun d b I L hc => ⟨b, zup I (b + 6) (8 * i + r) (nI v), L, ?_, ?_, ?_, zhiL.rf⟩, fun d b I L hc => ⟨zup I 57 (119 + 8 * i + r) (nI v), L, ?_, ?_, zlo.rf.up (by decide), zloL.rf⟩, ⟨hi.1.line hil (by omega) hv2, hi.2⟩, Or.inl ⟨rfl, _, rfl⟩⟩
    · refine zCall.of okX11_line (Nat.le_of_ble_eq_true rfl) ⟨Nat.le_refl _, Nat.le_refl _⟩ (fun G => tX11_line_0 (d := d + 38) hc.1 zR0.w ⟨fun q => absurd ((f1 hc).1.mpr hv.1) q, fun _ => ⟨fun q => absurd ((f1 hc).2.mpr hv.2.1) q, fun _ => ⟨fun _ => ?_, fun q => absurd (e2.mpr hv.2.2) q⟩⟩⟩)
      rw [hxi, hxr, hxv, zlineC, zx_nI (by omega), show I (b + 6) (8 * i + r) = nI (σ.1 (119 + 8 * i + r)) from (hc.2.1.2.2.2.1 i hil).2.2.2 r (by omega)]
      exact ⟨zv_in (by omega) (by decide), zv_in (by omega) (by decide), rfl⟩
    · refine hc.land (hr_line hc.2.1 hil hw2 (by omega) (fun k hk hk1 => ?_) ?_) (fun i h1 _ => zup_ne (by omega))
      · exact zup_ne (by omega)
      · exact zup_self _ _ _ _
    · exact zhi.rf.up (by have := hc.1.le; omega)
    · refine zCall.of okX12_line (Nat.le_of_ble_eq_true rfl) ⟨Nat.le_refl _, Nat.le_refl _⟩ (fun G => tX12_line_0 (d := d + 38) zR0.w ⟨fun q => absurd ((f2 hc).1.mpr hv.1) q, fun _ => ⟨fun q => absurd ((f2 hc).2.mpr hv.2.1) q, fun _ => ⟨fun _ => ?_, fun q => absurd (r2.mpr hv.2.2) q⟩⟩⟩)
      rw [hxi, hxr, hxv, zlineR, zx_nI (by omega), hc.1 _ (by omega)]
      exact ⟨zv_in (by omega) (by decide), zv_in (by omega) (by decide), rfl⟩
    · exact hc.now (zup_now hc.1) ⟨by rw [zup_ne (by decide)], fun i hi2 => zup_ne (by omega)⟩
  · refine ⟨.int (-2), sBad σ, sc_bad fun d b I L hc => ?_, sr_bad fun d b I L hc => ?_, hi, Or.inl ⟨rfl, _, rfl⟩⟩
    · exact zCall.of okX11_line (Nat.le_of_ble_eq_true rfl) ⟨Nat.le_refl _, Nat.le_refl _⟩ (fun G => tX11_line_0 (d := d + 38) hc.1 zR0.w ⟨fun _ => xBad _, fun q1 => ⟨fun _ => xBad _, fun q2 => ⟨fun q3 => absurd ⟨(f1 hc).1.mp q1, (f1 hc).2.mp q2, e2.mp q3⟩ hv, fun _ => xBad _⟩⟩⟩)
    · exact zCall.of okX12_line (Nat.le_of_ble_eq_true rfl) ⟨Nat.le_refl _, Nat.le_refl _⟩ (fun G => tX12_line_0 (d := d + 38) zR0.w ⟨fun _ => yBad, fun q1 => ⟨fun _ => yBad, fun q2 => ⟨fun q3 => absurd ⟨(f2 hc).1.mp q1, (f2 hc).2.mp q2, r2.mp q3⟩ hv, fun _ => yBad⟩⟩⟩)
