/-! pairs: goes, down, began -/
section N89
variable {w : zW} {i : Nat}
theorem vO_89 {r : Nat} (h : r < 8) : vO w i 8 r = vO w i 9 r := by
  unfold vO
  rw [if_neg (by omega), if_neg (by omega)]
theorem vP_89 : ∀ r, r ≤ 8 → vP w i 8 r = vP w i 9 r := by
  intro r
  induction r with
  | zero => intro _; rfl
  | succ r ih =>
    intro h
    show wpc _ _ _ _ _ = wpc _ _ _ _ _
    rw [vO_89 (by omega), ih (by omega)]
theorem vT_89 : ∀ r, r ≤ 8 → vT w i 8 r = vT w i 9 r := by
  intro r
  induction r with
  | zero => intro _; rfl
  | succ r ih =>
    intro h
    show vT w i 8 r + wtm _ _ _ = vT w i 9 r + wtm _ _ _
    rw [vO_89 (by omega), ih (by omega), vP_89 (r + 1) (by omega)]
theorem vH_89 {r : Nat} (h : r < 8) : vH w i 8 r = vH w i 9 r := by
  unfold vH
  rw [vO_89 h, vP_89 r (by omega), vP_89 (r + 1) (by omega)]
theorem vHs_89 : ∀ r, r ≤ 8 → vHs w i 8 r = vHs w i 9 r := by
  intro r
  induction r with
  | zero => intro _; rfl
  | succ r ih =>
    intro h
    show vHs w i 8 r + vH w i 8 r = vHs w i 9 r + vH w i 9 r
    rw [ih (by omega), vH_89 (by omega)]
end N89
/-- only scratch rows have changed -/
def z47 (I I' : Nat → Nat → Int32) : Prop := ∀ i, (i < 44 ∨ 47 < i) → I' i = I i
def z63 (I I' : Nat → Nat → Int32) : Prop := ∀ i, (i < 63 ∨ 73 < i) → I' i = I i
theorem zCl.w47 {b : Nat} {I I' : Nat → Nat → Int32} {L : Nat → Nat → Int64} {σ : zσ} (h : zCl b I L σ) (hI : z47 I I') : zCl b I' L σ := h.idle (fun i hi => hI i (by omega)) (by rw [hI 53 (by omega)]) (fun k _ => by rw [hI 54 (by omega)])
theorem zRf.w63 {I I' : Nat → Nat → Int32} {L : Nat → Nat → Int64} {σ : zσ} (h : zRf I L σ) (hI : z63 I I') : zRf I' L σ := h.idle (hI 57 (by omega)) ⟨by rw [hI 56 (by omega)], fun i hi => hI i (by omega)⟩
theorem z47.hi {I I' : Nat → Nat → Int32} (hI : z47 I I') : zhi I I' := fun i hi => hI i (by omega)
theorem z63.lo {I I' : Nat → Nat → Int32} (hI : z63 I I') : zlo I I' := fun i hi => hI i (by omega)
theorem z47.rf {I : Nat → Nat → Int32} : z47 I I := fun _ _ => rfl
theorem z63.rf {I : Nat → Nat → Int32} : z63 I I := fun _ _ => rfl
theorem z47.trans {I I' I'' : Nat → Nat → Int32} (h : z47 I I') (h' : z47 I' I'') : z47 I I'' := fun i hi => (h' i hi).trans (h i hi)
theorem z63.trans {I I' I'' : Nat → Nat → Int32} (h : z63 I I') (h' : z63 I' I'') : z63 I I'' := fun i hi => (h' i hi).trans (h i hi)
theorem zfoot_47 {I : Nat → Nat → Int32} {w : zW} {i t : Nat} : z47 I (zfoot I w i t) := fun _ h => zfoot_ne h
theorem zwk_63s {I : Nat → Nat → Int32} {w : zW} {i t n : Nat} : z63 I (zwk I w i t n) := fun _ h => zwk_ne (by omega)
theorem z47.hr {I I' : Nat → Nat → Int32} {q : Nat} {w : zW} (hI : z47 I I') (hq : q + 8 < 44) (h : hr (zat I q) w) : hr (zat I' q) w := h.congr (fun k hk => hI (q + k) (by omega))
theorem zbl.lt44 {b : Nat} (h : zbl b) : b + 8 < 44 := by rcases h with rfl | rfl <;> omega
/-- what the class's rows tell of runner i, a tumbler from row t on -/
def wOne (I : Nat → Nat → Int32) (w : zW) (i t : Nat) : Prop := (∀ r, r ≤ w 0 → I 44 (9 * i + r) = nI (vL w i r)) ∧ (∀ r, r < w 0 → I 45 (9 * i + r) = nI (vP w i t (r + 1))) ∧ (∀ r, r ≤ w 0 → I 46 (9 * i + r) = nI (vT w i t r)) ∧ (∀ r, r < w 0 → I 47 (9 * i + r) = nI (vH w i t r))
theorem zfoot_one {I : Nat → Nat → Int32} {w : zW} {i t : Nat} : wOne (zfoot I w i t) w i t := by
  have e : ∀ r, 9 * i + r - 9 * i = r := fun r => by omega
  refine ⟨fun r hr => ?_, fun r hr => ?_, fun r hr => ?_, fun r hr => ?_⟩
  · unfold zfoot
    rw [zup_ne (by decide), zup_self]
    simp only [upd]
    by_cases z : r = w 0
    · subst z; rw [if_pos rfl]
    · rw [if_neg (by omega)]; simp only [zfl]; rw [if_pos (by omega), if_pos trivial, e]
  · unfold zfoot
    rw [zup_ne (by decide), zup_ne (by decide)]
    simp only [zfl]; rw [if_pos (by omega), if_neg (by decide), if_pos trivial, e]
  · unfold zfoot
    rw [zup_self]
    simp only [upd]
    by_cases z : r = w 0
    · subst z; rw [if_pos rfl]
    · rw [if_neg (by omega), zup_ne (by decide)]; simp only [zfl]; rw [if_pos (by omega), if_neg (by decide), if_neg (by decide), if_pos trivial, e]
  · unfold zfoot
    rw [zup_ne (by decide), zup_ne (by decide)]
    simp only [zfl]; rw [if_pos (by omega), if_neg (by decide), if_neg (by decide), if_neg (by decide), e]
/-- other runners' rows stay -/
theorem zfoot_far {I : Nat → Nat → Int32} {w : zW} {i t a j : Nat} (hw : w 0 ≤ 8) (hj : j < 9 * i ∨ 9 * i + 8 < j) : zfoot I w i t a j = I a j := by
  unfold zfoot
  simp only [zup, zfl]
  rw [if_neg (by omega), if_neg (by omega), if_neg (by omega)]
/-- the same by the reference's 'never' -/
theorem wOne.n9 {I : Nat → Nat → Int32} {w : zW} {i : Nat} (h : wOne I w i 8) (hw : w 0 ≤ 8) : wOne I w i 9 := by
  obtain ⟨h1, h2, h3, h4⟩ := h
  exact ⟨h1, fun r hr => by rw [h2 r hr, vP_89 (r + 1) (by omega)], fun r hr => by rw [h3 r hr, vT_89 r (by omega)], fun r hr => by rw [h4 r hr, vH_89 (by omega)]⟩
section SUMS
variable {d b : Nat} {I : Nat → Nat → Int32} {L : Nat → Nat → Int64}
theorem kX10_harmInAll {i t : Nat} {w : zW} (h : wOne I w i t) (hi : i < 6) (hw : w 0 ≤ 8) : zCall (d + 1) mX10_harmInAll [.ref 43, .int (nI i), .int (nI (w 0))] (zh b I L) (some (.int (nI (vHs w i t (w 0)))), zh b I L) := by
  refine zCall.of okX10_harmInAll (Nat.le_of_ble_eq_true rfl) ⟨Nat.le_refl _, Nat.le_refl _⟩ (fun G => tX10_harmInAll_0 ?_)
  exact z_for (n := w 0) (P := fun r => zA G (d + 1) mX10_harmInAll 5 [some (.ref 43), some (.int (nI i)), some (.int (nI (w 0))), some (.int (nI (vHs w i t r))), some (.int (nI r))] [] (zh b I L) (some (.int (nI (vHs w i t (w 0)))), zh b I L))
    (tX10_harmInAll_5 zR0.w ⟨fun _ => rfl, fun q => absurd (nI_le (Nat.le_refl _) (by omega)) q⟩)
    (fun r hr ih => tX10_harmInAll_5 zR0.w ⟨fun q => absurd q (nI_ge hr (by omega)), fun _ => by
      rw [zwayC, zx_nI (by omega), h.2.2.2 r hr, nI_add, nI_1]
      exact ⟨zv_in (by omega) (by decide), ih⟩⟩) 0 (Nat.zero_le _)
theorem kX12_harm {i t : Nat} {w : zW} (h0 : I 57 0 = nI (w 0)) (h : ∀ r, r < w 0 → I 66 r = nI (vH w i t r)) (hw : w 0 ≤ 8) : zCall d mX12_harm [.ref 56] (zh b I L) (some (.int (nI (vHs w i t (w 0)))), zh b I L) := by
  refine zCall.of okX12_harm (Nat.le_of_ble_eq_true rfl) ⟨Nat.le_refl _, Nat.le_refl _⟩ (fun G => tX12_harm_0 ?_)
  exact z_for (n := w 0) (P := fun r => zA G d mX12_harm 4 [some (.ref 56), some (.int (nI (vHs w i t r))), some (.int (nI r))] [] (zh b I L) (some (.int (nI (vHs w i t (w 0)))), zh b I L))
    (tX12_harm_4 ⟨fun _ => rfl, fun q => absurd (by rw [h0]; exact nI_le (Nat.le_refl _) (by omega)) q⟩)
    (fun r hr ih => tX12_harm_4 ⟨fun q => absurd q (by rw [h0]; exact nI_ge hr (by omega)), fun _ => by
      rw [zx_nI (by omega), h r hr, nI_add, nI_1]
      exact ⟨zv_in (by omega) (by decide), ih⟩⟩) 0 (Nat.zero_le _)
theorem kX11_downAt {i : Nat} {σ : zσ} (hc : zCl b I L σ) (hi : i < σ.1 2) (hw : winv σ.1) (h : wOne I σ.1 i 9) : zCall (d + 1) mX11_downAt [.ref 0, .int (nI i)] (zh b I L) (some (.int (nI (σ.1 (113 + i) + vT σ.1 i 9 (σ.1 0)))), zh b I L) := by
  obtain ⟨⟨w0, w1, w2, w3, w4⟩, -⟩ := id hw
  refine zCall.of okX11_downAt (Nat.le_of_ble_eq_true rfl) ⟨Nat.le_refl _, Nat.le_refl _⟩ (fun G => tX11_downAt_0 hc.1 zR0.w ?_)
  rw [show I b 0 = nI (σ.1 0) from hc.2.1.1.1, zwayC, zx_nI (by omega), zx_nI (by omega), show I (b + 5) i = nI (σ.1 (113 + i)) from (hc.2.1.2.2.2.1 i hi).2.2.1, h.2.2.1 _ (Nat.le_refl _), nI_add]
  exact ⟨zv_in (by omega) (by decide), zv_in (by omega) (by decide), rfl⟩
end SUMS
theorem p_goes (x1 x2 x3 : Int32) : zPair mX11_goes mX12_goes [.int x1, .int x2, .int x3] := by
  refine zPair.of fun σ hi => ?_
  obtain ⟨⟨hw0, hw1, hw2, hw3, hw4⟩, -⟩ := id hi.1
  have f1 : ∀ {b : Nat} {I : Nat → Nat → Int32} {L : Nat → Nat → Int64}, zCl b I L σ → ((0 ≤ x1 ∧ x1 ≤ I b 2 - 1) ↔ zof x1 (σ.1 2)) ∧ ((0 ≤ x2 ∧ x2 ≤ I b 0 - 1) ↔ zof x2 (σ.1 0)) := by
    intro b I L hc
    rw [show I b 0 = nI (σ.1 0) from hc.2.1.1.1, show I b 2 = nI (σ.1 2) from hc.2.1.1.2.2.1, zof_c (by omega), zof_c (by omega)]
    exact ⟨Iff.rfl, Iff.rfl⟩
  have f2 : ∀ {I : Nat → Nat → Int32} {L : Nat → Nat → Int64}, zRf I L σ → ((0 ≤ x1.toInt64 ∧ x1.toInt64 ≤ (I 57 2 - 1).toInt64) ↔ zof x1 (σ.1 2)) ∧ ((0 ≤ x2.toInt64 ∧ x2.toInt64 ≤ (I 57 0 - 1).toInt64) ↔ zof x2 (σ.1 0)) := by
    intro I L hc
    rw [hc.1 0 (by decide), hc.1 2 (by decide), zof_r (by omega), zof_r (by omega)]
    exact ⟨Iff.rfl, Iff.rfl⟩
  have e3 : (0 ≤ x3 ∧ x3 ≤ 3) ↔ zin x3 0 3 := zin_c (lo := 0) (hi := 3) (by decide) (by decide)
  have r3 : (0 ≤ x3.toInt64 ∧ x3.toInt64 ≤ 3) ↔ zin x3 0 3 := zin_r (lo := 0) (hi := 3) (by decide) (by decide)
  by_cases hv : zof x1 (σ.1 2) ∧ zof x2 (σ.1 0) ∧ zin x3 0 3
  · obtain ⟨i, hil, hxi⟩ := hv.1.nat (by omega)
    obtain ⟨r, hr, hxr⟩ := hv.2.1.nat (by omega)
    obtain ⟨k, -, hk, hxk⟩ := hv.2.2.nat (by decide)
    refine ⟨.int (nI (if k = 0 then vL σ.1 i r else if k = 1 then vP σ.1 i 9 (r + 1) else if k = 2 then σ.1 (113 + i) + vT σ.1 i 9 r else vH σ.1 i 9 r)), σ, fun d b I L hc => ⟨b, zfoot I σ.1 i 8, L, ?_, hc.w47 zfoot_47, zfoot_47.hi, zhiL.rf⟩, fun d b I L hc => ⟨zwk I σ.1 i 9 (σ.1 0), L, ?_, hc.w63 zwk_63s, zwk_63s.lo, zloL.rf⟩, hi, Or.inl ⟨rfl, _, rfl⟩⟩
    · have one := (zfoot_one (I := I) (w := σ.1) (i := i) (t := 8)).n9 hw0.2
      have kf := kX10_follow (d := d + 35) (b := b) (L := L) (t := 8) hc.1.hl hi.1 hc.2.1 hil (by omega)
      refine zCall.of okX11_goes (Nat.le_of_ble_eq_true rfl) ⟨Nat.le_refl _, Nat.le_refl _⟩ (fun G => tX11_goes_0 (d := d + 35) hc.1 zR0.w ⟨fun q => absurd ((f1 hc).1.mpr hv.1) q, fun _ => ⟨fun q => absurd ((f1 hc).2.mpr hv.2.1) q, fun _ => ⟨fun _ => ⟨zfoot I σ.1 i 8, by rw [hxi]; exact kf, ?_⟩, fun q => absurd (e3.mpr hv.2.2) q⟩⟩⟩)
      have hb := hc.1.lt44
      rw [hxi, hxr, hxk, zwayC, zx_nI (show 9 * i + r < 2 ^ 31 by omega), zx_nI (show i < 2 ^ 31 by omega), one.1 r (by omega), one.2.1 r hr, one.2.2.1 r (by omega), one.2.2.2 r hr, zfoot_ne (a := b + 5) (by omega), show I (b + 5) i = nI (σ.1 (113 + i)) from (hc.2.1.2.2.2.1 i hil).2.2.1, nI_add]
      rcases (by omega : k = 0 ∨ k = 1 ∨ k = 2 ∨ k = 3) with rfl | rfl | rfl | rfl
      · exact ⟨fun q => absurd q (by decide), fun _ => ⟨zv_in (by omega) (by decide), rfl⟩, fun q => absurd q (by decide), fun q => absurd q (by decide)⟩
      · exact ⟨fun q => absurd q (by decide), fun q => absurd q (by decide), fun _ => ⟨zv_in (by omega) (by decide), rfl⟩, fun q => absurd q (by decide)⟩
      · exact ⟨fun q => absurd q (by decide), fun q => absurd q (by decide), fun q => absurd q (by decide), fun _ => ⟨zv_in (by omega) (by decide), zv_in (by omega) (by decide), rfl⟩⟩
      · exact ⟨fun _ => ⟨zv_in (by omega) (by decide), rfl⟩, fun q => absurd q (by decide), fun q => absurd q (by decide), fun q => absurd q (by decide)⟩
    · have kw := kX12_walks (d := d + 36) (b := b) (L := L) hi.1 hc.1 hil
      refine zCall.of okX12_goes (Nat.le_of_ble_eq_true rfl) ⟨Nat.le_refl _, Nat.le_refl _⟩ (fun G => tX12_goes_0 (d := d + 36) zR0.w ⟨fun q => absurd ((f2 hc).1.mpr hv.1) q, fun _ => ⟨fun q => absurd ((f2 hc).2.mpr hv.2.1) q, fun _ => ⟨fun _ => ⟨zwk I σ.1 i 9 (σ.1 0), by rw [hxi]; exact kw, ?_⟩, fun q => absurd (r3.mpr hv.2.2) q⟩⟩⟩)
      rw [hxr, hxk, zx_nI (show r < 2 ^ 31 by omega), zwk_63 (by omega), zwk_64 hr, zwk_65 (by omega), zwk_66 hr]
      rcases (by omega : k = 0 ∨ k = 1 ∨ k = 2 ∨ k = 3) with rfl | rfl | rfl | rfl
      · exact ⟨fun q => absurd (by decide) q, fun _ => ⟨zv_in (by omega) (by decide), rfl⟩⟩
      · exact ⟨fun _ => ⟨fun q => absurd (by decide) q, fun _ => ⟨zv_in (by omega) (by decide), rfl⟩⟩, fun q => absurd q (by decide)⟩
      · exact ⟨fun _ => ⟨fun _ => ⟨fun q => absurd (by decide) q, fun _ => ⟨zv_in (by omega) (by decide), rfl⟩⟩, fun q => absurd q (by decide)⟩, fun q => absurd q (by decide)⟩
      · exact ⟨fun _ => ⟨fun _ => ⟨fun _ => ⟨zv_in (by omega) (by decide), rfl⟩, fun q => absurd q (by decide)⟩, fun q => absurd q (by decide)⟩, fun q => absurd q (by decide)⟩
  · refine ⟨.int (-2), sBad σ, sc_bad fun d b I L hc => ?_, sr_bad fun d b I L hc => ?_, hi, Or.inl ⟨rfl, _, rfl⟩⟩
    · exact zCall.of okX11_goes (Nat.le_of_ble_eq_true rfl) ⟨Nat.le_refl _, Nat.le_refl _⟩ (fun G => tX11_goes_0 (d := d + 35) hc.1 zR0.w ⟨fun _ => xBad _, fun q1 => ⟨fun _ => xBad _, fun q2 => ⟨fun q3 => absurd ⟨(f1 hc).1.mp q1, (f1 hc).2.mp q2, e3.mp q3⟩ hv, fun _ => xBad _⟩⟩⟩)
    · exact zCall.of okX12_goes (Nat.le_of_ble_eq_true rfl) ⟨Nat.le_refl _, Nat.le_refl _⟩ (fun G => tX12_goes_0 (d := d + 36) zR0.w ⟨fun _ => yBad, fun q1 => ⟨fun _ => yBad, fun q2 => ⟨fun q3 => absurd ⟨(f2 hc).1.mp q1, (f2 hc).2.mp q2, r3.mp q3⟩ hv, fun _ => yBad⟩⟩⟩)
theorem p_down (x1 x2 : Int32) : zPair mX11_down mX12_down [.int x1, .int x2] := by
  refine zPair.of fun σ hi => ?_
  obtain ⟨⟨hw0, hw1, hw2, hw3, hw4⟩, -⟩ := id hi.1
  have f1 : ∀ {b : Nat} {I : Nat → Nat → Int32} {L : Nat → Nat → Int64}, zCl b I L σ → ((0 ≤ x1 ∧ x1 ≤ I b 2 - 1) ↔ zof x1 (σ.1 2)) := by
    intro b I L hc
    rw [show I b 2 = nI (σ.1 2) from hc.2.1.1.2.2.1, zof_c (by omega)]
  have f2 : ∀ {I : Nat → Nat → Int32} {L : Nat → Nat → Int64}, zRf I L σ → ((0 ≤ x1.toInt64 ∧ x1.toInt64 ≤ (I 57 2 - 1).toInt64) ↔ zof x1 (σ.1 2)) := by
    intro I L hc
    rw [hc.1 2 (by decide), zof_r (by omega)]
  have e3 : (0 ≤ x2 ∧ x2 ≤ 2) ↔ zin x2 0 2 := zin_c (lo := 0) (hi := 2) (by decide) (by decide)
  have r3 : (0 ≤ x2.toInt64 ∧ x2.toInt64 ≤ 2) ↔ zin x2 0 2 := zin_r (lo := 0) (hi := 2) (by decide) (by decide)
  by_cases hv : zof x1 (σ.1 2) ∧ zin x2 0 2
  · obtain ⟨i, hil, hxi⟩ := hv.1.nat (by omega)
    obtain ⟨k, -, hk, hxk⟩ := hv.2.nat (by decide)
    refine ⟨.int (nI (if k = 0 then σ.1 (113 + i) + vT σ.1 i 9 (σ.1 0) else if k = 1 then vHs σ.1 i 9 (σ.1 0) else vL σ.1 i (σ.1 0))), σ, fun d b I L hc => ⟨b, zfoot I σ.1 i 8, L, ?_, hc.w47 zfoot_47, zfoot_47.hi, zhiL.rf⟩, fun d b I L hc => ⟨zwk I σ.1 i 9 (σ.1 0), L, ?_, hc.w63 zwk_63s, zwk_63s.lo, zloL.rf⟩, hi, Or.inl ⟨rfl, _, rfl⟩⟩
    · have one := (zfoot_one (I := I) (w := σ.1) (i := i) (t := 8)).n9 hw0.2
      have kf := kX10_follow (d := d + 35) (b := b) (L := L) (t := 8) hc.1.hl hi.1 hc.2.1 hil (by omega)
      have hc' := hc.w47 (zfoot_47 (I := I) (w := σ.1) (i := i) (t := 8))
      have e0 : zfoot I σ.1 i 8 b 0 = nI (σ.1 0) := hc'.2.1.1.1
      refine zCall.of okX11_down (Nat.le_of_ble_eq_true rfl) ⟨Nat.le_refl _, Nat.le_refl _⟩ (fun G => tX11_down_0 (d := d + 35) hc.1 zR0.w ⟨fun q => absurd ((f1 hc).mpr hv.1) q, fun _ => ⟨fun _ => ⟨zfoot I σ.1 i 8, by rw [hxi]; exact kf, ?_⟩, fun q => absurd (e3.mpr hv.2) q⟩⟩)
      rw [hxi, hxk, e0, zwayC, zx_nI (show 9 * i + σ.1 0 < 2 ^ 31 by omega), one.1 _ (Nat.le_refl _)]
      rcases (by omega : k = 0 ∨ k = 1 ∨ k = 2) with rfl | rfl | rfl
      · exact ⟨fun _ => ⟨_, kX11_downAt hc' hil hi.1 one, rfl⟩, fun q => absurd (by decide) q⟩
      · exact ⟨fun q => absurd q (by decide), fun _ => ⟨fun _ => ⟨_, kX10_harmInAll one (by omega) hw0.2, rfl⟩, fun q => absurd (by decide) q⟩⟩
      · exact ⟨fun q => absurd q (by decide), fun _ => ⟨fun q => absurd q (by decide), fun _ => ⟨zv_in (by omega) (by decide), rfl⟩⟩⟩
    · have kw := kX12_walks (d := d + 36) (b := b) (L := L) hi.1 hc.1 hil
      have hc' := hc.w63 (zwk_63s (I := I) (w := σ.1) (i := i) (t := 9) (n := σ.1 0))
      refine zCall.of okX12_down (Nat.le_of_ble_eq_true rfl) ⟨Nat.le_refl _, Nat.le_refl _⟩ (fun G => tX12_down_0 (d := d + 36) zR0.w ⟨fun q => absurd ((f2 hc).mpr hv.1) q, fun _ => ⟨fun _ => ⟨zwk I σ.1 i 9 (σ.1 0), by rw [hxi]; exact kw, ?_⟩, fun q => absurd (r3.mpr hv.2) q⟩⟩)
      rw [hxk, hc'.1 0 (by decide), zx_nI (show σ.1 0 < 2 ^ 31 by omega), zwk_63 (Nat.le_refl _), zwk_65 (Nat.le_refl _)]
      rcases (by omega : k = 0 ∨ k = 1 ∨ k = 2) with rfl | rfl | rfl
      · exact ⟨fun q => absurd (by decide) q, fun _ => ⟨zv_in (by omega) (by decide), rfl⟩⟩
      · exact ⟨fun _ => ⟨fun q => absurd (by decide) q, fun _ => ⟨_, kX12_harm (hc'.1 0 (by decide)) (fun r hr => zwk_66 hr) hw0.2, rfl⟩⟩, fun q => absurd q (by decide)⟩
      · exact ⟨fun _ => ⟨fun _ => ⟨zv_in (by omega) (by decide), rfl⟩, fun q => absurd q (by decide)⟩, fun q => absurd q (by decide)⟩
  · refine ⟨.int (-2), sBad σ, sc_bad fun d b I L hc => ?_, sr_bad fun d b I L hc => ?_, hi, Or.inl ⟨rfl, _, rfl⟩⟩
    · exact zCall.of okX11_down (Nat.le_of_ble_eq_true rfl) ⟨Nat.le_refl _, Nat.le_refl _⟩ (fun G => tX11_down_0 (d := d + 35) hc.1 zR0.w ⟨fun _ => xBad _, fun q1 => ⟨fun q3 => absurd ⟨(f1 hc).mp q1, e3.mp q3⟩ hv, fun _ => xBad _⟩⟩)
    · exact zCall.of okX12_down (Nat.le_of_ble_eq_true rfl) ⟨Nat.le_refl _, Nat.le_refl _⟩ (fun G => tX12_down_0 (d := d + 36) zR0.w ⟨fun _ => yBad, fun q1 => ⟨fun q3 => absurd ⟨(f2 hc).mp q1, r3.mp q3⟩ hv, fun _ => yBad⟩⟩)
/-- the reference's downOf -/
theorem kX12_downOf {d b i : Nat} {I : Nat → Nat → Int32} {L : Nat → Nat → Int64} {w : zW} (hw : winv w) (h : ∀ k, k < 463 → I 57 k = nI (w k)) (hi : i < w 2) : zCall (d + 4) mX12_downOf [.ref 56, .int (nI i)] (zh b I L) (some (.int (nI (w (113 + i) + vT w i 9 (w 0)))), zh b (zwk I w i 9 (w 0)) L) := by
  have w0 := hw.1.1
  refine zCall.of okX12_downOf (Nat.le_of_ble_eq_true rfl) ⟨Nat.le_refl _, Nat.le_refl _⟩ (fun G => tX12_downOf_0 zR0.w ⟨zwk I w i 9 (w 0), kX12_walks hw h hi, ?_⟩)
  rw [zwk_ne (a := 57) (by decide), h 0 (by decide), zx_nI (by omega), zwk_65 (Nat.le_refl _)]
  exact ⟨zv_in (by omega) (by decide), rfl⟩
theorem p_began (x1 x2 : Int32) : zPair mX11_began mX12_began [.int x1, .int x2] := by
  refine zPair.of fun σ hi => ?_
  obtain ⟨⟨hw0, hw1, hw2, hw3, hw4⟩, -⟩ := id hi.1
  have f1 : ∀ {b : Nat} {I : Nat → Nat → Int32} {L : Nat → Nat → Int64}, zCl b I L σ → ((0 ≤ x1 ∧ x1 ≤ I b 2 - 1) ↔ zof x1 (σ.1 2)) := by
    intro b I L hc
    rw [show I b 2 = nI (σ.1 2) from hc.2.1.1.2.2.1, zof_c (by omega)]
  have f2 : ∀ {I : Nat → Nat → Int32} {L : Nat → Nat → Int64}, zRf I L σ → ((0 ≤ x1.toInt64 ∧ x1.toInt64 ≤ (I 57 2 - 1).toInt64) ↔ zof x1 (σ.1 2)) := by
    intro I L hc
    rw [hc.1 2 (by decide), zof_r (by omega)]
  have e3 : (0 ≤ x2 ∧ x2 ≤ 999) ↔ zin x2 0 999 := zin_c (lo := 0) (hi := 999) (by decide) (by decide)
  have r3 : (0 ≤ x2.toInt64 ∧ x2.toInt64 ≤ 999) ↔ zin x2 0 999 := zin_r (lo := 0) (hi := 999) (by decide) (by decide)
  by_cases hv : zof x1 (σ.1 2) ∧ zin x2 0 999
  · obtain ⟨i, hil, hxi⟩ := hv.1.nat (by omega)
    refine ⟨.int (x2 - nI (vT σ.1 i 9 (σ.1 0))), σ, fun d b I L hc => ⟨b, zfoot I σ.1 i 8, L, ?_, hc.w47 zfoot_47, zfoot_47.hi, zhiL.rf⟩, fun d b I L hc => ⟨zwk I σ.1 i 9 (σ.1 0), L, ?_, hc.w63 zwk_63s, zwk_63s.lo, zloL.rf⟩, hi, Or.inl ⟨rfl, _, rfl⟩⟩
    · have one := (zfoot_one (I := I) (w := σ.1) (i := i) (t := 8)).n9 hw0.2
      have kf := kX10_follow (d := d + 35) (b := b) (L := L) (t := 8) hc.1.hl hi.1 hc.2.1 hil (by omega)
      have hc' := hc.w47 (zfoot_47 (I := I) (w := σ.1) (i := i) (t := 8))
      have e0 : zfoot I σ.1 i 8 b 0 = nI (σ.1 0) := hc'.2.1.1.1
      refine zCall.of okX11_began (Nat.le_of_ble_eq_true rfl) ⟨Nat.le_refl _, Nat.le_refl _⟩ (fun G => tX11_began_0 (d := d + 35) hc.1 zR0.w ⟨fun q => absurd ((f1 hc).mpr hv.1) q, fun _ => ⟨fun _ => ⟨zfoot I σ.1 i 8, by rw [hxi]; exact kf, ?_⟩, fun q => absurd (e3.mpr hv.2) q⟩⟩)
      rw [hxi, e0, zwayC, zx_nI (show 9 * i + σ.1 0 < 2 ^ 31 by omega), one.2.2.1 _ (Nat.le_refl _)]
      exact ⟨zv_in (by omega) (by decide), rfl⟩
    · refine zCall.of okX12_began (Nat.le_of_ble_eq_true rfl) ⟨Nat.le_refl _, Nat.le_refl _⟩ (fun G => tX12_began_0 (d := d + 35) zR0.w ⟨fun q => absurd ((f2 hc).mpr hv.1) q, fun _ => ⟨fun _ => ⟨_, zwk I σ.1 i 9 (σ.1 0), by rw [hxi]; exact kX12_downOf hi.1 hc.1 hil, ?_⟩, fun q => absurd (r3.mpr hv.2) q⟩⟩)
      rw [hxi, show (113 : Int32) = nI 113 from rfl, nI_add, zx_nI (by omega), zwk_ne (a := 57) (by decide), hc.1 _ (by omega), ← nI_add (σ.1 (113 + i))]
      refine ⟨zv_in (by omega) (by decide), ?_⟩
      have e : ∀ x y z : Int32, x - (y + z) + y = x - z := fun x y z => by
        rw [Int32.sub_eq_add_neg, Int32.neg_add, Int32.sub_eq_add_neg, Int32.sub_eq_add_neg, Int32.add_comm (-y), ← Int32.add_assoc, Int32.add_assoc, Int32.add_left_neg, Int32.add_zero]
      rw [e]
  · refine ⟨.int (-1000), sBad σ, sc_bad fun d b I L hc => ?_, sr_bad fun d b I L hc => ?_, hi, Or.inl ⟨rfl, _, rfl⟩⟩
    · exact zCall.of okX11_began (Nat.le_of_ble_eq_true rfl) ⟨Nat.le_refl _, Nat.le_refl _⟩ (fun G => tX11_began_0 (d := d + 35) hc.1 zR0.w ⟨fun _ => xBad _, fun q1 => ⟨fun q3 => absurd ⟨(f1 hc).mp q1, e3.mp q3⟩ hv, fun _ => xBad _⟩⟩)
    · exact zCall.of okX12_began (Nat.le_of_ble_eq_true rfl) ⟨Nat.le_refl _, Nat.le_refl _⟩ (fun G => tX12_began_0 (d := d + 35) zR0.w ⟨fun _ => ⟨_, _, kX12_refuseB, rfl⟩, fun q1 => ⟨fun q3 => absurd ⟨(f2 hc).mp q1, r3.mp q3⟩ hv, fun _ => ⟨_, _, kX12_refuseB, rfl⟩⟩⟩)
