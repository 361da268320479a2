/-! all ways; pairs: fall, place -/
theorem z47.fo {I J : Nat → Nat → Int32} {w : zW} {i t : Nat} (h : z47 I J) : z47 I (zfoot J w i t) := h.trans zfoot_47
theorem z63.wk {I J : Nat → Nat → Int32} {w : zW} {i t n : Nat} (h : z63 I J) : z63 I (zwk J w i t n) := h.trans zwk_63s
theorem z63.now {I J : Nat → Nat → Int32} {w : zW} (h : z63 I J) (hw : ∀ k, k < 463 → I 57 k = nI (w k)) : ∀ k, k < 463 → J 57 k = nI (w k) := fun k hk => by rw [h 57 (by omega)]; exact hw k hk
/-- the heap shows the ways of the first n -/
def wAll (I : Nat → Nat → Int32) (w : zW) (n : Nat) : Prop := ∀ i, i < n → wOne I w i 9
theorem wOne.far {I : Nat → Nat → Int32} {w : zW} {i j s t : Nat} (h : wOne I w j s) (hw : w 0 ≤ 8) (hj : j ≠ i) : wOne (zfoot I w i t) w j s := by
  obtain ⟨h1, h2, h3, h4⟩ := h
  refine ⟨fun r hr => ?_, fun r hr => ?_, fun r hr => ?_, fun r hr => ?_⟩
  · rw [zfoot_far hw (by omega)]; exact h1 r hr
  · rw [zfoot_far hw (by omega)]; exact h2 r hr
  · rw [zfoot_far hw (by omega)]; exact h3 r hr
  · rw [zfoot_far hw (by omega)]; exact h4 r hr
section ALL
variable {d b : Nat} {I : Nat → Nat → Int32} {L : Nat → Nat → Int64}
theorem kX10_followAll {o : Nat} {w : zW} (ho : zhl o) (hw : winv w) (h : hr (zat I o) w) : ∃ J, z47 I J ∧ wAll J w (w 2) ∧ zCall (d + 5) mX10_followAll [.ref 43, .ref o, .ref 37] (zh b I L) (none, zh b J L) := by
  obtain ⟨⟨w0, w1, w2, w3, w4⟩, -⟩ := id hw
  have ho36 : o + 8 < 44 := by rcases ho with rfl | rfl | rfl | rfl <;> omega
  have key := z_for (n := w 2) (P := fun i => ∀ J, z47 I J → wAll J w i → ∃ J', z47 I J' ∧ wAll J' w (w 2) ∧ ∀ G, zA G (d + 5) mX10_followAll 2 [some (.ref 43), some (.ref o), some (.ref 37), some (.int (nI i))] [] (zh b J L) (none, zh b J' L)) ?_ ?_ 0 (Nat.zero_le _)
  · obtain ⟨J', h1, h2, h3⟩ := key I z47.rf (fun i hi => absurd hi (Nat.not_lt_zero i))
    exact ⟨J', h1, h2, zCall.of okX10_followAll (Nat.le_of_ble_eq_true rfl) ⟨Nat.le_refl _, Nat.le_refl _⟩ (fun G => tX10_followAll_0 ho (h3 G))⟩
  · intro J hJ ha
    have e2 : J o 2 = nI (w 2) := (hJ.hr ho36 h).1.2.2.1
    exact ⟨J, hJ, ha, fun G => tX10_followAll_2 ho zR0.w ⟨fun _ => rfl, fun q => absurd (by rw [e2]; exact nI_le (Nat.le_refl _) (by omega)) q⟩⟩
  · intro i hi ih J hJ ha
    have hh := hJ.hr ho36 h
    have e2 : J o 2 = nI (w 2) := hh.1.2.2.1
    obtain ⟨J', h1, h2, h3⟩ := ih (zfoot J w i 8) hJ.fo (fun j hj => by
      by_cases z : j = i
      · subst z; exact zfoot_one.n9 w0.2
      · exact (ha j (by omega)).far w0.2 z)
    refine ⟨J', h1, h2, fun G => tX10_followAll_2 ho zR0.w ⟨fun q => absurd q (by rw [e2]; exact nI_ge hi (by omega)), fun _ => ⟨_, kX10_follow (t := 8) ho hw hh hi (by omega), ?_⟩⟩⟩
    rw [nI_1]
    exact h3 G
/-- what a fall from row t on costs -/
def wcost (w : zW) (i W t : Nat) : Nat := vT w i t (w 0) + W * vHs w i t (w 0)
theorem wcost_le {w : zW} {i W t : Nat} (h : w 0 ≤ 8) (hW : W ≤ 20) : wcost w i W t ≤ 1240 := by
  have h1 := vT_le (w := w) (i := i) (t := t) (w 0)
  have h2 := vHs_le (w := w) (i := i) (t := t) (w 0)
  have h3 : W * vHs w i t (w 0) ≤ 20 * 48 := Nat.mul_le_mul hW (by omega)
  unfold wcost
  omega
theorem wcost_89 {w : zW} {i W : Nat} (h : w 0 ≤ 8) : wcost w i W 8 = wcost w i W 9 := by
  unfold wcost
  rw [vT_89 _ h, vHs_89 _ h]
theorem kX11_costOfFall {i t W : Nat} {σ : zσ} (hc : zCl b I L σ) (hw : winv σ.1) (hi : i < σ.1 2) (ht : t ≤ 8) : zCall (d + 5) mX11_costOfFall [.ref 0, .int (nI i), .int (nI W), .int (nI t)] (zh b I L) (some (.int (nI (wcost σ.1 i W t))), zh b (zfoot I σ.1 i t) L) := by
  obtain ⟨⟨w0, w1, w2, w3, w4⟩, -⟩ := id hw
  have one := zfoot_one (I := I) (w := σ.1) (i := i) (t := t)
  have hc' := hc.w47 (zfoot_47 (I := I) (w := σ.1) (i := i) (t := t))
  have e0 : zfoot I σ.1 i t b 0 = nI (σ.1 0) := hc'.2.1.1.1
  refine zCall.of okX11_costOfFall (Nat.le_of_ble_eq_true rfl) ⟨Nat.le_refl _, Nat.le_refl _⟩ (fun G => tX11_costOfFall_0 hc.1 zR0.w ⟨_, kX10_follow hc.1.hl hw hc.2.1 hi ht, ?_⟩)
  rw [e0, zwayC, zx_nI (by omega), one.2.2.1 _ (Nat.le_refl _)]
  refine ⟨zv_in (by omega) (by decide), _, kX10_harmInAll one (by omega) w0.2, ?_⟩
  rw [pk_mul, nI_add]
  rfl
theorem kX12_comesTo {i t W : Nat} {w : zW} (hw : winv w) (h : ∀ k, k < 463 → I 57 k = nI (w k)) : zCall (d + 1) mX12_comesTo [.ref 56, .int (nI W)] (zh b (zwk I w i t (w 0)) L) (some (.int (nI (wcost w i W t))), zh b (zwk I w i t (w 0)) L) := by
  obtain ⟨⟨w0, w1, w2, w3, w4⟩, -⟩ := id hw
  have e0 : zwk I w i t (w 0) 57 0 = nI (w 0) := by rw [zwk_ne (by omega)]; exact h 0 (by decide)
  refine zCall.of okX12_comesTo (Nat.le_of_ble_eq_true rfl) ⟨Nat.le_refl _, Nat.le_refl _⟩ (fun G => tX12_comesTo_0 zR0.w ?_)
  rw [e0, zx_nI (by omega), zwk_65 (Nat.le_refl _), zwk_65 (Nat.zero_le _)]
  refine ⟨zv_in (by omega) (by decide), _, kX12_harm e0 (fun r hr => zwk_66 hr) w0.2, ?_⟩
  rw [pk_mul, pk_sub (show w (113 + i) + vT w i t 0 ≤ w (113 + i) + vT w i t (w 0) by show w (113 + i) + 0 ≤ _; omega), nI_add]
  rw [show w (113 + i) + vT w i t (w 0) - (w (113 + i) + vT w i t 0) = vT w i t (w 0) by show _ - (w (113 + i) + 0) = _; omega]
  rfl
end ALL
/-- the best fall among the first r rows -/
def wfall (w : zW) (i W : Nat) : Nat → Nat × Int32
  | 0 => (wcost w i W 9, -1)
  | r + 1 => if wcost w i W r < (wfall w i W r).1 then (wcost w i W r, nI r) else wfall w i W r
theorem wfall_le {w : zW} {i W : Nat} (h : w 0 ≤ 8) (hW : W ≤ 20) : ∀ r, (wfall w i W r).1 ≤ 1240 := by
  intro r
  induction r with
  | zero => exact wcost_le h hW
  | succ r ih =>
    simp only [wfall]
    split
    · exact wcost_le h hW
    · exact ih
theorem p_fall (x1 x2 : Int32) : zPair mX11_fall mX12_fall [.int x1, .int x2] := by
  refine zPair.of fun σ hi => ?_
  obtain ⟨⟨hw0, hw1, hw2, hw3, hw4⟩, -⟩ := id hi.1
  have f1 : ∀ {b : Nat} {I : Nat → Nat → Int32} {L : Nat → Nat → Int64}, zCl b I L σ → ((0 ≤ x1 ∧ x1 ≤ I b 2 - 1) ↔ zof x1 (σ.1 2)) := by
    intro b I L hc
    rw [show I b 2 = nI (σ.1 2) from hc.2.1.1.2.2.1, zof_c (by omega)]
  have f2 : ∀ {I : Nat → Nat → Int32} {L : Nat → Nat → Int64}, zRf I L σ → ((0 ≤ x1.toInt64 ∧ x1.toInt64 ≤ (I 57 2 - 1).toInt64) ↔ zof x1 (σ.1 2)) := by
    intro I L hc
    rw [hc.1 2 (by decide), zof_r (by omega)]
  have e3 : (0 ≤ x2 ∧ x2 ≤ 20) ↔ zin x2 0 20 := zin_c (lo := 0) (hi := 20) (by decide) (by decide)
  have r3 : (0 ≤ x2.toInt64 ∧ x2.toInt64 ≤ 20) ↔ zin x2 0 20 := zin_r (lo := 0) (hi := 20) (by decide) (by decide)
  by_cases hv : zof x1 (σ.1 2) ∧ zin x2 0 20
  · obtain ⟨i, hil, hxi⟩ := hv.1.nat (by omega)
    obtain ⟨W, -, hW, hxW⟩ := hv.2.nat (by decide)
    subst hxi hxW
    have hle := wfall_le (w := σ.1) (i := i) hw0.2 hW
    have hcl := fun t => wcost_le (w := σ.1) (i := i) (t := t) hw0.2 hW
    refine ⟨.int (wfall σ.1 i W (σ.1 0)).2, σ, fun d b I L hc => ?_, fun d b I L hc => ?_, hi, Or.inl ⟨rfl, _, rfl⟩⟩
    · have key := z_for (n := σ.1 0) (P := fun r => ∀ J, z47 I J → ∃ J', z47 I J' ∧ ∀ G, zA G (d + 40) mX11_fall 43 [some (.ref 0), some (.int (nI i)), some (.int (nI W)), some (.int (nI (wfall σ.1 i W r).1)), some (.int (wfall σ.1 i W r).2), some (.int (nI r)), none] [] (zh b J L) (some (.int (wfall σ.1 i W (σ.1 0)).2), zh b J' L)) ?_ ?_ 0 (Nat.zero_le _)
      · obtain ⟨J', h1, h2⟩ := key (zfoot I σ.1 i 8) zfoot_47
        refine ⟨b, J', L, zCall.of okX11_fall (Nat.le_of_ble_eq_true rfl) ⟨Nat.le_refl _, Nat.le_refl _⟩ (fun G => tX11_fall_0 (d := d + 34) hc.1 zR0.w ⟨fun q => absurd ((f1 hc).mpr hv.1) q, fun _ => ⟨fun _ => ⟨_, _, kX11_costOfFall (t := 8) hc hi.1 hil (by omega), ?_⟩, fun q => absurd (e3.mpr hv.2) q⟩⟩), hc.w47 h1, h1.hi, zhiL.rf⟩
        rw [wcost_89 hw0.2]
        exact h2 G
      · intro J hJ
        have e0 : J b 0 = nI (σ.1 0) := (hc.w47 hJ).2.1.1.1
        exact ⟨J, hJ, fun G => tX11_fall_43 (d := d + 34) hc.1 zR0.w ⟨fun _ => rfl, fun q => absurd (by rw [e0]; exact nI_le (Nat.le_refl _) (by omega)) q⟩⟩
      · intro r hr ih J hJ
        have hc' := hc.w47 hJ
        have e0 : J b 0 = nI (σ.1 0) := hc'.2.1.1.1
        obtain ⟨J', h1, h2⟩ := ih (zfoot J σ.1 i r) hJ.fo
        refine ⟨J', h1, fun G => tX11_fall_43 (d := d + 34) hc.1 zR0.w ⟨fun q => absurd q (by rw [e0]; exact nI_ge hr (by omega)), fun _ => ⟨_, _, kX11_costOfFall hc' hi.1 hil (by omega), fun q => ?_, fun q => ?_⟩⟩⟩
        · have q' : ¬ wcost σ.1 i W r < (wfall σ.1 i W r).1 := fun z => absurd q (nI_ge z (by have := hle r; omega))
          have := h2 G
          simp only [wfall] at this
          rw [if_neg q'] at this
          rw [nI_1]; exact this
        · have q' : wcost σ.1 i W r < (wfall σ.1 i W r).1 := Nat.lt_of_not_le (fun z => q (nI_le z (by have := hcl r; omega)))
          have := h2 G
          simp only [wfall] at this
          rw [if_pos q'] at this
          rw [nI_1]; exact this
    · have key := z_for (n := σ.1 0) (P := fun r => ∀ J, z63 I J → ∃ J', z63 I J' ∧ ∀ G, zA G (d + 40) mX12_fall 44 [some (.ref 56), some (.int (nI i)), some (.int (nI W)), some (.int (nI (wfall σ.1 i W r).1)), some (.int (wfall σ.1 i W r).2), some (.int (nI r))] [] (zh b J L) (some (.int (wfall σ.1 i W (σ.1 0)).2), zh b J' L)) ?_ ?_ 0 (Nat.zero_le _)
      · obtain ⟨J', h1, h2⟩ := key (zwk I σ.1 i 9 (σ.1 0)) zwk_63s
        exact ⟨J', L, zCall.of okX12_fall (Nat.le_of_ble_eq_true rfl) ⟨Nat.le_refl _, Nat.le_refl _⟩ (fun G => tX12_fall_0 (d := d + 36) zR0.w ⟨fun q => absurd ((f2 hc).mpr hv.1) q, fun _ => ⟨fun _ => ⟨_, kX12_walks (d := d + 36) hi.1 hc.1 hil, _, kX12_comesTo (d := d + 38) hi.1 hc.1, h2 G⟩, fun q => absurd (r3.mpr hv.2) q⟩⟩), hc.w63 h1, h1.lo, zloL.rf⟩
      · intro J hJ
        have e0 : J 57 0 = nI (σ.1 0) := hJ.now hc.1 0 (by decide)
        exact ⟨J, hJ, fun G => tX12_fall_44 (d := d + 36) zR0.w ⟨fun _ => rfl, fun q => absurd (by rw [e0]; exact nI_le (Nat.le_refl _) (by omega)) q⟩⟩
      · intro r hr ih J hJ
        have e0 : J 57 0 = nI (σ.1 0) := hJ.now hc.1 0 (by decide)
        obtain ⟨J', h1, h2⟩ := ih (zwk J σ.1 i r (σ.1 0)) hJ.wk
        refine ⟨J', h1, fun G => tX12_fall_44 (d := d + 36) zR0.w ⟨fun q => absurd q (by rw [e0]; exact nI_ge hr (by omega)), fun _ => ⟨_, kX12_walk (d := d + 37) hi.1 (hJ.now hc.1) hil (by omega), _, kX12_comesTo (d := d + 38) hi.1 (hJ.now hc.1), fun q => ?_, fun q => ⟨_, kX12_comesTo (d := d + 38) hi.1 (hJ.now hc.1), ?_⟩⟩⟩⟩
        · have q' : ¬ wcost σ.1 i W r < (wfall σ.1 i W r).1 := fun z => absurd q (nI_ge z (by have := hle r; omega))
          have := h2 G
          simp only [wfall] at this
          rw [if_neg q'] at this
          rw [nI_1]; exact this
        · have q' : wcost σ.1 i W r < (wfall σ.1 i W r).1 := Nat.lt_of_not_le (fun z => q (nI_le z (by have := hcl r; omega)))
          have := h2 G
          simp only [wfall] at this
          rw [if_pos q'] at this
          rw [nI_1]; exact this
  · refine ⟨.int (-2), sBad σ, sc_bad fun d b I L hc => ?_, sr_bad fun d b I L hc => ?_, hi, Or.inl ⟨rfl, _, rfl⟩⟩
    · exact zCall.of okX11_fall (Nat.le_of_ble_eq_true rfl) ⟨Nat.le_refl _, Nat.le_refl _⟩ (fun G => tX11_fall_0 (d := d + 34) hc.1 zR0.w ⟨fun _ => xBad _, fun q1 => ⟨fun q3 => absurd ⟨(f1 hc).mp q1, e3.mp q3⟩ hv, fun _ => xBad _⟩⟩)
    · exact zCall.of okX12_fall (Nat.le_of_ble_eq_true rfl) ⟨Nat.le_refl _, Nat.le_refl _⟩ (fun G => tX12_fall_0 (d := d + 36) zR0.w ⟨fun _ => yBad, fun q1 => ⟨fun q3 => absurd ⟨(f2 hc).mp q1, r3.mp q3⟩ hv, fun _ => yBad⟩⟩)
