/-! pair: runner -/
section RUN
variable {d b : Nat} {I : Nat → Nat → Int32} {L : Nat → Nat → Int64}
/-- a runner more -/
def wrun (w : zW) (k l s : Nat) : zW := fun j => if j = 2 then w 2 + 1 else if j = 101 + w 2 then k else if j = 107 + w 2 then l else if j = 113 + w 2 then s else if 119 + 8 * w 2 ≤ j ∧ j < 119 + 8 * w 2 + 8 then 0 else w j
/-- the class's lines put straight, n of them -/
def zstr (I : Nat → Nat → Int32) (a m n : Nat) : Nat → Nat → Int32 := fun i k => if i = a ∧ m ≤ k ∧ k < m + n then 0 else I i k
theorem zstr_ne {a m n i : Nat} (h : i ≠ a) : zstr I a m n i = I i := by
  funext k
  simp [zstr, h]
theorem zstr_0 {a m : Nat} : zstr I a m 0 = I := by
  funext i k
  simp only [zstr]
  rw [if_neg (by omega)]
theorem zstr_s {a m n : Nat} : zup (zstr I a m n) a (m + n) 0 = zstr I a m (n + 1) := by
  funext i k
  simp only [zup, zstr]
  repeat' split
  all_goals first | rfl | (exfalso; omega)
theorem kX4_addRunner {q n : Nat} (hq : zhl q) (hn : I q 2 = nI n) (h6 : n < 6) (k l s : Int32) : zCall (d + 1) mX4_addRunner [.ref q, .int k, .int l, .int s] (zh b I L) (none, zh b (zup (zstr (zup (zup (zup I (q + 3) n k) (q + 4) n l) (q + 5) n s) (q + 6) (8 * n) 8) q 2 (nI (n + 1))) L) := by
  refine zCall.of okX4_addRunner (Nat.le_of_ble_eq_true rfl) ⟨Nat.le_refl _, Nat.le_refl _⟩ (fun G => tX4_addRunner_0 hq ⟨fun _ => ?_, fun z => absurd (by rw [hn]; exact nI_lt h6 (by decide)) z⟩)
  have h1 : zup I (q + 3) n k q 2 = nI n := by rw [zup_ne (by omega)]; exact hn
  have h2 : zup (zup I (q + 3) n k) (q + 4) n l q 2 = nI n := by rw [zup_ne (by omega)]; exact h1
  have h3 : zup (zup (zup I (q + 3) n k) (q + 4) n l) (q + 5) n s q 2 = nI n := by rw [zup_ne (by omega)]; exact h2
  rw [hn, zx_nI (by omega), h1, zx_nI (by omega)]
  refine ⟨zv_in h6 (by decide), zv_in h6 (by decide), ?_⟩
  rintro I4 rfl
  rw [h2, zx_nI (by omega)]
  refine ⟨zv_in h6 (by decide), ?_⟩
  rintro I6 rfl
  have key := z_for (n := 8) (P := fun r => zA G (d + 1) mX4_addRunner 43 [some (.ref q), some (.int k), some (.int l), some (.int s), some (.int (nI r))] [] (zh b (zstr (zup (zup (zup I (q + 3) n k) (q + 4) n l) (q + 5) n s) (q + 6) (8 * n) r) L) (none, zh b (zup (zstr (zup (zup (zup I (q + 3) n k) (q + 4) n l) (q + 5) n s) (q + 6) (8 * n) 8) q 2 (nI (n + 1))) L)) ?_ ?_ 0 (Nat.zero_le _)
  · simp only [zstr_0] at key
    exact key
  · refine tX4_addRunner_43 hq zR0.w ⟨fun _ => ?_, fun z => absurd (nI_le (Nat.le_refl 8) (by decide)) z⟩
    rw [zstr_ne (by omega), h3, nI_1]
  · intro r hr ih
    refine tX4_addRunner_43 hq zR0.w ⟨fun z => absurd z (nI_ge hr (by decide)), fun _ => ?_⟩
    rw [zstr_ne (i := q) (by omega), h3, zlineC, zx_nI (by omega), nI_1, zstr_s]
    exact ⟨zv_in (by omega) (by decide), ih⟩
theorem kX12_joins {a n : Nat} (ha : zsh a = (100, 463)) (la : a < 74) (hn : I a 2 = nI n) (h6 : n < 6) (k l s : Int32) : zCall d mX12_joins [.ref a, .int k, .int l, .int s] (zh b I L) (some (.int (nI n)), zh b (zup (zstr (zup (zup (zup I a (101 + n) k) a (107 + n) l) a (113 + n) s) a (119 + 8 * n) 8) a 2 (nI (n + 1))) L) := by
  refine zCall.of okX12_joins (Nat.le_of_ble_eq_true rfl) ⟨Nat.le_refl _, Nat.le_refl _⟩ (fun G => tX12_joins_0 ha la ?_)
  rw [hn, show (101 : Int32) = nI 101 from rfl, show (107 : Int32) = nI 107 from rfl, show (113 : Int32) = nI 113 from rfl, nI_add, nI_add, nI_add, zx_nI (by omega), zx_nI (by omega), zx_nI (by omega)]
  refine ⟨zv_in (by omega) (by decide), zv_in (by omega) (by decide), ?_⟩
  rintro I3 rfl
  refine ⟨zv_in (by omega) (by decide), ?_⟩
  rintro I5 rfl
  have key := z_for (n := 8) (P := fun r => zA G d mX12_joins 32 [some (.ref a), some (.int k), some (.int l), some (.int s), some (.int (nI n)), some (.int (nI r))] [] (zh b (zstr (zup (zup (zup I a (101 + n) k) a (107 + n) l) a (113 + n) s) a (119 + 8 * n) r) L) (some (.int (nI n)), zh b (zup (zstr (zup (zup (zup I a (101 + n) k) a (107 + n) l) a (113 + n) s) a (119 + 8 * n) 8) a 2 (nI (n + 1))) L)) ?_ ?_ 0 (Nat.zero_le _)
  · simp only [zstr_0] at key
    exact key
  · refine tX12_joins_32 ha la ⟨fun _ => ?_, fun z => absurd (nI_le (Nat.le_refl 8) (by decide)) z⟩
    rw [nI_1]
  · intro r hr ih
    refine tX12_joins_32 ha la ⟨fun z => absurd z (nI_ge hr (by decide)), fun _ => ?_⟩
    rw [zlineR, zx_nI (by omega), nI_1, zstr_s]
    exact ⟨zv_in (by omega) (by decide), ih⟩
/-- the class's hill with a runner more -/
theorem hr_run {q k l s : Nat} {w : zW} (h : hr (zat I q) w) (h6 : w 2 < 6) (h8 : w 3 ≤ 8) : hr (zat (zup (zstr (zup (zup (zup I (q + 3) (w 2) (nI k)) (q + 4) (w 2) (nI l)) (q + 5) (w 2) (nI s)) (q + 6) (8 * w 2) 8) q 2 (nI (w 2 + 1))) q) (wrun w k l s) := by
  obtain ⟨⟨a0, a1, a2, a3, a4⟩, a5, a6, a7, a8, a9⟩ := h
  generalize hJ : zup (zstr (zup (zup (zup I (q + 3) (w 2) (nI k)) (q + 4) (w 2) (nI l)) (q + 5) (w 2) (nI s)) (q + 6) (8 * w 2) 8) q 2 (nI (w 2 + 1)) = J
  have j0 : ∀ j, j ≠ 2 → J q j = I q j := fun j hj => by
    rw [← hJ, zup_self]
    simp only [upd, hj, if_false]
    rw [zstr_ne (by omega), zup_ne (by omega), zup_ne (by omega), zup_ne (by omega)]
  have j2 : J q 2 = nI (w 2 + 1) := by rw [← hJ]; simp [zup]
  have j3 : J (q + 3) = upd (I (q + 3)) (w 2) (nI k) := by rw [← hJ, zup_ne (by omega), zstr_ne (by omega), zup_ne (by omega), zup_ne (by omega), zup_self]
  have j4 : J (q + 4) = upd (I (q + 4)) (w 2) (nI l) := by rw [← hJ, zup_ne (by omega), zstr_ne (by omega), zup_ne (by omega), zup_self, zup_ne (by omega)]
  have j5 : J (q + 5) = upd (I (q + 5)) (w 2) (nI s) := by rw [← hJ, zup_ne (by omega), zstr_ne (by omega), zup_self, zup_ne (by omega), zup_ne (by omega)]
  have j6 : ∀ j, J (q + 6) j = if 8 * w 2 ≤ j ∧ j < 8 * w 2 + 8 then 0 else I (q + 6) j := fun j => by
    rw [← hJ, zup_ne (by omega)]
    simp only [zstr]
    rw [zup_ne (by omega), zup_ne (by omega), zup_ne (by omega)]
    by_cases z : 8 * w 2 ≤ j ∧ j < 8 * w 2 + 8
    · rw [if_pos ⟨trivial, z⟩, if_pos z]
    · rw [if_neg (fun y => z y.2), if_neg z]
  have jk : ∀ i, (i = 1 ∨ i = 2 ∨ i = 7 ∨ i = 8) → J (q + i) = I (q + i) := fun i hi => by
    rw [← hJ, zup_ne (by omega), zstr_ne (by omega), zup_ne (by omega), zup_ne (by omega), zup_ne (by omega)]
  have nn : ∀ j, j ≠ 2 → (j < 101 ∨ 167 ≤ j) → wrun w k l s j = w j := fun j h1 h2 => by
    simp only [wrun]
    rw [if_neg h1, if_neg (by omega), if_neg (by omega), if_neg (by omega), if_neg (by omega)]
  have n2 : wrun w k l s 2 = w 2 + 1 := if_pos rfl
  unfold hr
  rw [n2, nn 0 (by omega) (by omega), nn 1 (by omega) (by omega), nn 3 (by omega) (by omega), nn 4 (by omega) (by omega)]
  refine ⟨⟨(j0 0 (by omega)).trans a0, (j0 1 (by omega)).trans a1, j2, (j0 3 (by omega)).trans a3, (j0 4 (by omega)).trans a4⟩, fun c hc => ?_, fun c hc => ?_, fun i hi => ?_, fun z hz => ?_, fun z hz => ?_⟩
  · rw [nn _ (by omega) (by omega)]; show J (q + 1) c = _; rw [jk 1 (by omega)]; exact a5 c hc
  · rw [nn _ (by omega) (by omega)]; show J (q + 2) c = _; rw [jk 2 (by omega)]; exact a6 c hc
  · show J (q + 3) i = _ ∧ J (q + 4) i = _ ∧ J (q + 5) i = _ ∧ ∀ r, r < 8 → J (q + 6) (8 * i + r) = _
    rw [j3, j4, j5]
    by_cases z : i = w 2
    · subst z
      refine ⟨?_, ?_, ?_, fun r hr => ?_⟩
      · simp only [upd, if_true, wrun]; rw [if_neg (by omega)]
      · simp only [upd, if_true, wrun]; rw [if_neg (by omega), if_neg (by omega)]
      · simp only [upd, if_true, wrun]; rw [if_neg (by omega), if_neg (by omega), if_neg (by omega)]
      · rw [j6, if_pos (by omega)]; simp only [wrun]; rw [if_neg (by omega), if_neg (by omega), if_neg (by omega), if_neg (by omega), if_pos (by omega)]; rfl
    · obtain ⟨c1, c2, c3, c4⟩ := a7 i (by omega)
      refine ⟨?_, ?_, ?_, fun r hr => ?_⟩
      · simp only [upd, z, if_false, wrun]; rw [if_neg (by omega), if_neg (by omega), if_neg (by omega), if_neg (by omega), if_neg (by omega)]; exact c1
      · simp only [upd, z, if_false, wrun]; rw [if_neg (by omega), if_neg (by omega), if_neg (by omega), if_neg (by omega), if_neg (by omega)]; exact c2
      · simp only [upd, z, if_false, wrun]; rw [if_neg (by omega), if_neg (by omega), if_neg (by omega), if_neg (by omega), if_neg (by omega)]; exact c3
      · rw [j6, if_neg (by omega)]; simp only [wrun]; rw [if_neg (by omega), if_neg (by omega), if_neg (by omega), if_neg (by omega), if_neg (by omega)]; exact c4 r hr
  · rw [nn _ (by omega) (by omega)]; show J (q + 7) z = _; rw [jk 7 (by omega)]; exact a8 z hz
  · rw [nn _ (by omega) (by omega)]; show J (q + 8) z = _; rw [jk 8 (by omega)]; exact a9 z hz
theorem winv.run {w : zW} {k l s : Nat} (h : winv w) (h6 : w 2 < 6) (hk : k ≤ 4) (hl : l < w 1) (hs : s ≤ 99) : winv (wrun w k l s) := by
  obtain ⟨⟨b0, b1, b2, b3, b4⟩, a1, a2, a3, a4, a5⟩ := h
  have nn : ∀ j, j ≠ 2 → (j < 101 ∨ 167 ≤ j) → wrun w k l s j = w j := fun j h1 h2 => by
    simp only [wrun]
    rw [if_neg h1, if_neg (by omega), if_neg (by omega), if_neg (by omega), if_neg (by omega)]
  have n2 : wrun w k l s 2 = w 2 + 1 := if_pos rfl
  unfold winv
  rw [n2, nn 0 (by omega) (by omega), nn 1 (by omega) (by omega), nn 3 (by omega) (by omega), nn 4 (by omega) (by omega)]
  refine ⟨⟨b0, b1, by omega, b3, b4⟩, fun c hc => by rw [nn _ (by omega) (by omega)]; exact a1 c hc, fun c hc => by rw [nn _ (by omega) (by omega)]; exact a2 c hc, fun i hi => ?_, fun z hz => by rw [nn _ (by omega) (by omega)]; exact a4 z hz, fun z hz => by rw [nn _ (by omega) (by omega)]; exact a5 z hz⟩
  by_cases z : i = w 2
  · subst z
    refine ⟨?_, ?_, ?_, fun r hr => ?_⟩
    · simp only [wrun]; rw [if_neg (by omega)]; simpa using hk
    · simp only [wrun]; rw [if_neg (by omega), if_neg (by omega)]; simpa using hl
    · simp only [wrun]; rw [if_neg (by omega), if_neg (by omega), if_neg (by omega)]; have : s ≤ 999 := by omega
      simpa using this
    · simp only [wrun]; rw [if_neg (by omega), if_neg (by omega), if_neg (by omega), if_neg (by omega), if_pos (by omega)]; omega
  · obtain ⟨c1, c2, c3, c4⟩ := a3 i (by omega)
    refine ⟨?_, ?_, ?_, fun r hr => ?_⟩
    · simp only [wrun]; rw [if_neg (by omega), if_neg (by omega), if_neg (by omega), if_neg (by omega), if_neg (by omega)]; exact c1
    · simp only [wrun]; rw [if_neg (by omega), if_neg (by omega), if_neg (by omega), if_neg (by omega), if_neg (by omega)]; exact c2
    · simp only [wrun]; rw [if_neg (by omega), if_neg (by omega), if_neg (by omega), if_neg (by omega), if_neg (by omega)]; exact c3
    · simp only [wrun]; rw [if_neg (by omega), if_neg (by omega), if_neg (by omega), if_neg (by omega), if_neg (by omega)]; exact c4 r hr
/-- the reference's row with a runner more -/
theorem zrun_now {a k l s : Nat} {w : zW} (h : ∀ j, j < 463 → I a j = nI (w j)) (h6 : w 2 < 6) : ∀ j, j < 463 → zup (zstr (zup (zup (zup I a (101 + w 2) (nI k)) a (107 + w 2) (nI l)) a (113 + w 2) (nI s)) a (119 + 8 * w 2) 8) a 2 (nI (w 2 + 1)) a j = nI (wrun w k l s j) := by
  intro j hj
  simp only [zup, zstr, wrun, true_and]
  repeat' split
  all_goals first | rfl | (exfalso; omega) | exact h j hj
theorem kX12_isRunnerAt (x1 x2 x3 : Int32) {w1 : Nat} (hw : I 57 1 = nI w1) (h1 : w1 < 1000) [Decidable (zin x1 0 4 ∧ zof x2 w1 ∧ zin x3 0 99)] : zCall (d + 1) mX12_isRunnerAt [.ref 57, .int x1, .int x2, .int x3] (zh b I L) (some (.int (zB (decide (zin x1 0 4 ∧ zof x2 w1 ∧ zin x3 0 99)))), zh b I L) := by
  have e1 : (0 ≤ x1.toInt64 ∧ x1.toInt64 ≤ 4) ↔ zin x1 0 4 := zin_r (lo := 0) (hi := 4) (by decide) (by decide)
  have e2 : (0 ≤ x2.toInt64 ∧ x2.toInt64 ≤ (I 57 1 - 1).toInt64) ↔ zof x2 w1 := by rw [hw, zof_r (by omega)]
  have e3 : (0 ≤ x3.toInt64 ∧ x3.toInt64 ≤ 99) ↔ zin x3 0 99 := zin_r (lo := 0) (hi := 99) (by decide) (by decide)
  rw [← zb_B]
  refine zCall.of okX12_isRunnerAt (Nat.le_of_ble_eq_true rfl) ⟨Nat.le_refl _, Nat.le_refl _⟩ (fun G => tX12_isRunnerAt_0 zR0.w ⟨fun q => ?_, fun q1 => ⟨fun q => ?_, fun q2 => ⟨fun q => ?_, fun q3 => ?_⟩⟩⟩)
  · rw [zb_f (fun z => q (e1.mpr z.1))]
  · rw [zb_f (fun z => q (e2.mpr z.2.1))]
  · rw [zb_f (fun z => q (e3.mpr z.2.2))]
  · rw [zb_t ⟨e1.mp q1, e2.mp q2, e3.mp q3⟩]
end RUN
theorem p_runner (x1 x2 x3 : Int32) : zPair mX11_runner mX12_runner [.int x1, .int x2, .int x3] := by
  refine zPair.of fun σ hi => ?_
  obtain ⟨⟨hw0, hw1, hw2, hw3, hw4⟩, -⟩ := id hi.1
  have e1 : (0 ≤ x1 ∧ x1 ≤ 4) ↔ zin x1 0 4 := zin_c (lo := 0) (hi := 4) (by decide) (by decide)
  have e3 : (0 ≤ x3 ∧ x3 ≤ 99) ↔ zin x3 0 99 := zin_c (lo := 0) (hi := 99) (by decide) (by decide)
  have e2 : ∀ {b : Nat} {I : Nat → Nat → Int32} {L : Nat → Nat → Int64}, zCl b I L σ → ((0 ≤ x2 ∧ x2 ≤ I b 1 - 1) ↔ zof x2 (σ.1 1)) := by
    intro b I L hc
    rw [show I b 1 = nI (σ.1 1) from hc.2.1.1.2.1, zof_c (by omega)]
  have hdec : Decidable (zin x1 0 4 ∧ zof x2 (σ.1 1) ∧ zin x3 0 99) := Classical.propDecidable _
  by_cases hv : zin x1 0 4 ∧ zof x2 (σ.1 1) ∧ zin x3 0 99
  · obtain ⟨k, -, hk, hxk⟩ := hv.1.nat (by decide)
    obtain ⟨l, hl, hxl⟩ := hv.2.1.nat (by omega)
    obtain ⟨s, -, hs, hxs⟩ := hv.2.2.nat (by decide)
    by_cases hf : σ.1 2 < 6
    · refine ⟨.int (nI (σ.1 2)), (wrun σ.1 k l s, σ.2), fun d b I L hc => ⟨b, zup (zstr (zup (zup (zup I (b + 3) (σ.1 2) (nI k)) (b + 4) (σ.1 2) (nI l)) (b + 5) (σ.1 2) (nI s)) (b + 6) (8 * σ.1 2) 8) b 2 (nI (σ.1 2 + 1)), L, ?_, ?_, ?_, zhiL.rf⟩, fun d b I L hc => ⟨zup (zstr (zup (zup (zup I 57 (101 + σ.1 2) (nI k)) 57 (107 + σ.1 2) (nI l)) 57 (113 + σ.1 2) (nI s)) 57 (119 + 8 * σ.1 2) 8) 57 2 (nI (σ.1 2 + 1)), L, ?_, ?_, ?_, zloL.rf⟩, ⟨hi.1.run hf hk hl hs, hi.2⟩, Or.inl ⟨rfl, _, rfl⟩⟩
      · have h2 : I b 2 = nI (σ.1 2) := hc.2.1.1.2.2.1
        refine zCall.of okX11_runner (Nat.le_of_ble_eq_true rfl) ⟨Nat.le_refl _, Nat.le_refl _⟩ (fun G => tX11_runner_0 (d := d + 38) hc.1 zR0.w ⟨fun q => absurd (e1.mpr hv.1) q, fun _ => ⟨fun q => absurd ((e2 hc).mpr hv.2.1) q, fun _ => ⟨fun _ => ⟨fun _ => ⟨_, by rw [hxk, hxl, hxs]; exact kX4_addRunner hc.1.hl h2 hf _ _ _, ?_⟩, fun q => absurd (by rw [h2]; exact nI_lt hf (by decide)) q⟩, fun q => absurd (e3.mpr hv.2.2) q⟩⟩⟩)
        rw [zup_self]
        simp only [upd, if_true]
        rw [show (nI (σ.1 2 + 1) - 1 : Int32) = nI (σ.1 2) from nI_pred _]
      · exact hc.land (hr_run hc.2.1 hf hw3) (fun i h1 _ => by rw [zup_ne (by omega), zstr_ne (by omega), zup_ne (by omega), zup_ne (by omega), zup_ne (by omega)])
      · intro i hi2
        have hb := hc.1.le
        rw [zup_ne (by omega), zstr_ne (by omega), zup_ne (by omega), zup_ne (by omega), zup_ne (by omega)]
      · have h2 : I 57 2 = nI (σ.1 2) := hc.1 2 (by decide)
        refine zCall.of okX12_runner (Nat.le_of_ble_eq_true rfl) ⟨Nat.le_refl _, Nat.le_refl _⟩ (fun G => tX12_runner_0 (d := d + 38) zR0.w ⟨_, kX12_isRunnerAt x1 x2 x3 (hc.1 1 (by decide)) (by omega), fun _ => ⟨fun _ => ⟨_, _, by rw [hxk, hxl, hxs]; exact kX12_joins rfl (by decide) h2 hf _ _ _, rfl⟩, fun q => absurd q (by rw [h2, show (6 : Int32) = nI 6 from rfl, nI_eq (by omega) (by decide)]; omega)⟩, fun q => absurd q (by simp [hv])⟩)
      · exact hc.now (zrun_now hc.1 hf) ⟨by rw [zup_ne (by decide), zstr_ne (by decide), zup_ne (by decide), zup_ne (by decide), zup_ne (by decide)], fun i hi2 => by rw [zup_ne (by omega), zstr_ne (by omega), zup_ne (by omega), zup_ne (by omega), zup_ne (by omega)]⟩
      · intro i hi2
        rw [zup_ne (by omega), zstr_ne (by omega), zup_ne (by omega), zup_ne (by omega), zup_ne (by omega)]
    · have h6 : σ.1 2 = 6 := by omega
      refine ⟨.int (-4), sFull σ, sc_full fun d b I L hc => ?_, sr_full fun d b I L hc => ?_, hi, Or.inl ⟨rfl, _, rfl⟩⟩
      · have h2 : I b 2 = nI (σ.1 2) := hc.2.1.1.2.2.1
        exact zCall.of okX11_runner (Nat.le_of_ble_eq_true rfl) ⟨Nat.le_refl _, Nat.le_refl _⟩ (fun G => tX11_runner_0 (d := d + 38) hc.1 zR0.w ⟨fun q => absurd (e1.mpr hv.1) q, fun _ => ⟨fun q => absurd ((e2 hc).mpr hv.2.1) q, fun _ => ⟨fun _ => ⟨fun q => absurd q (by rw [h2, h6]; decide), fun _ => xFull⟩, fun q => absurd (e3.mpr hv.2.2) q⟩⟩⟩)
      · have h2 : I 57 2 = nI (σ.1 2) := hc.1 2 (by decide)
        exact zCall.of okX12_runner (Nat.le_of_ble_eq_true rfl) ⟨Nat.le_refl _, Nat.le_refl _⟩ (fun G => tX12_runner_0 (d := d + 38) zR0.w ⟨_, kX12_isRunnerAt x1 x2 x3 (hc.1 1 (by decide)) (by omega), fun _ => ⟨fun q => absurd (by rw [h2, h6]; decide) q, fun _ => yFull⟩, fun q => absurd q (by simp [hv])⟩)
  · refine ⟨.int (-2), sBad σ, sc_bad fun d b I L hc => ?_, sr_bad fun d b I L hc => ?_, hi, Or.inl ⟨rfl, _, rfl⟩⟩
    · exact zCall.of okX11_runner (Nat.le_of_ble_eq_true rfl) ⟨Nat.le_refl _, Nat.le_refl _⟩ (fun G => tX11_runner_0 (d := d + 38) hc.1 zR0.w ⟨fun _ => xBad _, fun q1 => ⟨fun _ => xBad _, fun q2 => ⟨fun q3 => absurd ⟨e1.mp q1, (e2 hc).mp q2, e3.mp q3⟩ hv, fun _ => xBad _⟩⟩⟩)
    · exact zCall.of okX12_runner (Nat.le_of_ble_eq_true rfl) ⟨Nat.le_refl _, Nat.le_refl _⟩ (fun G => tX12_runner_0 (d := d + 38) zR0.w ⟨_, kX12_isRunnerAt x1 x2 x3 (hc.1 1 (by decide)) (by omega), fun q => absurd (of_decide_eq_true q) hv, fun _ => yBad⟩)
