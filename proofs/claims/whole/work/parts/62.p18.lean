/-! a run wears the hill -/
/-- how many of the first n go through cell c -/
def wtr (w : zW) (n c : Nat) : Nat := if c / 6 < w 0 then zct (fun i => decide (vL w i (c / 6) = c % 6)) n else 0
theorem wtr_0 {w : zW} (hw : winv w) {c : Nat} (h : w 0 ≤ c / 6 ∨ w 1 ≤ c % 6) : ∀ n, n ≤ w 2 → wtr w n c = 0 := by
  intro n hn
  unfold wtr
  by_cases z : c / 6 < w 0
  · rw [if_pos z]
    refine zct_none n (fun i hi => decide_eq_false (fun q => ?_))
    have := vL_lt hw (show i < w 2 by omega) (c / 6) (by omega)
    omega
  · rw [if_neg z]
theorem wtr_s {w : zW} {n c : Nat} : wtr w (n + 1) c = wtr w n c + (if c / 6 < w 0 ∧ vL w n (c / 6) = c % 6 then 1 else 0) := by
  unfold wtr
  by_cases z : c / 6 < w 0
  · rw [if_pos z, if_pos z]
    by_cases y : vL w n (c / 6) = c % 6
    · rw [zct_t (p := fun i => decide (vL w i (c / 6) = c % 6)) (decide_eq_true y), if_pos ⟨z, y⟩]
    · rw [zct_f (p := fun i => decide (vL w i (c / 6) = c % 6)) (decide_eq_false y), if_neg (fun q => y q.2)]; rfl
  · rw [if_neg z, if_neg z, if_neg (fun q => z q.1)]
def wwear (w : zW) (c : Nat) : Nat := if 1 < wtr w (w 2) c ∧ w (5 + c) < 9 then w (5 + c) + 1 else w (5 + c)
def wu (w : zW) : Nat := if w 4 = 6 then 5 else w 4
def wkp (w : zW) : zW := fun k => if k = 4 then wu w + 1 else if 175 ≤ k then (if 175 + 48 * wu w ≤ k ∧ k < 175 + 48 * wu w + 48 then w (5 + (k - 175 - 48 * wu w)) else if w 4 = 6 ∧ k < 415 then w (k + 48) else w k) else w k
def wrn (w : zW) : zW := fun k => if 5 ≤ k ∧ k < 53 then wwear w (k - 5) else wkp w k
theorem wu_le {w : zW} (h : w 4 ≤ 6) : wu w ≤ 5 := by unfold wu; split <;> omega
theorem winv_rn {w : zW} (h : winv w) : winv (wrn w) := by
  obtain ⟨⟨w0, w1, w2, w3, w4⟩, a1, a2, a3, a4, a5⟩ := id h
  have hu := wu_le w4
  have n : ∀ k, k ≠ 4 → (k < 5 ∨ 53 ≤ k) → k < 175 → wrn w k = w k := fun k h1 h2 h3 => by
    unfold wrn wkp; rw [if_neg (by omega), if_neg h1, if_neg (by omega)]
  have n4 : wrn w 4 = wu w + 1 := by unfold wrn wkp; rw [if_neg (by omega), if_pos rfl]
  unfold winv
  rw [n 0 (by omega) (by omega) (by omega), n 1 (by omega) (by omega) (by omega), n 2 (by omega) (by omega) (by omega), n 3 (by omega) (by omega) (by omega), n4]
  refine ⟨⟨w0, w1, w2, w3, by omega⟩, fun c hc => ?_, fun c hc => ?_, fun i hi => ⟨?_, ?_, ?_, fun r hr => ?_⟩, fun k hk => ?_, fun k hk => ?_⟩
  · have := a1 c hc
    unfold wrn
    rw [if_pos (by omega), show 5 + c - 5 = c by omega]
    unfold wwear
    split <;> omega
  · rw [n _ (by omega) (by omega) (by omega)]; exact a2 c hc
  · rw [n _ (by omega) (by omega) (by omega)]; exact (a3 i hi).1
  · rw [n _ (by omega) (by omega) (by omega)]; exact (a3 i hi).2.1
  · rw [n _ (by omega) (by omega) (by omega)]; exact (a3 i hi).2.2.1
  · rw [n _ (by omega) (by omega) (by omega)]; exact (a3 i hi).2.2.2 r hr
  · rw [n _ (by omega) (by omega) (by omega)]; exact a4 k hk
  · unfold wrn wkp
    rw [if_neg (by omega), if_neg (by omega), if_pos (by omega)]
    by_cases z : 175 + 48 * wu w ≤ 175 + k ∧ 175 + k < 175 + 48 * wu w + 48
    · rw [if_pos z]; exact a1 _ (by omega)
    · rw [if_neg z]
      have hk2 : k < 48 * wu w := by omega
      by_cases y : w 4 = 6 ∧ 175 + k < 415
      · rw [if_pos y, show 175 + k + 48 = 175 + (k + 48) by omega]; exact a5 _ (by omega)
      · rw [if_neg y]
        refine a5 k ?_
        unfold wu at hk2
        split at hk2 <;> omega
section RUN
variable {d b : Nat} {I : Nat → Nat → Int32} {L : Nat → Nat → Int64}
theorem kX4_keepSlopes {q : Nat} {w : zW} (hq : zhl q) (hw : winv w) (h : hr (zat I q) w) : ∃ J, (∀ i, i ≠ q → i ≠ q + 8 → J i = I i) ∧ hr (zat J q) (wkp w) ∧ zCall (d + 1) mX4_keepSlopes [.ref q] (zh b I L) (none, zh b J L) := by
  obtain ⟨⟨w0, w1, w2, w3, w4⟩, -⟩ := id hw
  obtain ⟨⟨c0, c1, c2, c3, c4⟩, b1, b2, b3, b4, b5⟩ := id h
  have k4 : I q 4 = nI (w 4) := c4
  have n : ∀ k, k ≠ 4 → k < 175 → wkp w k = w k := fun k h1 h3 => by
    unfold wkp; rw [if_neg h1, if_neg (by omega)]
  have n4 : wkp w 4 = wu w + 1 := by unfold wkp; rw [if_pos rfl]
  have fin : ∀ J : Nat → Nat → Int32, (∀ i, i ≠ q → i ≠ q + 8 → J i = I i) → (J q 0 = I q 0 ∧ J q 1 = I q 1 ∧ J q 2 = I q 2 ∧ J q 3 = I q 3 ∧ J q 4 = nI (wu w + 1)) → (∀ k, k < 48 * (wu w + 1) → J (q + 8) k = nI (wkp w (175 + k))) → hr (zat J q) (wkp w) := by
    intro J h1 h2 h3
    have r : ∀ k, k ≠ 0 → k ≤ 7 → zat J q k = zat I q k := fun k k0 k7 => h1 (q + k) (by omega) (by omega)
    unfold hr
    rw [n 0 (by omega) (by omega), n 1 (by omega) (by omega), n 2 (by omega) (by omega), n 3 (by omega) (by omega), n4, r 1 (by omega) (by omega), r 2 (by omega) (by omega), r 3 (by omega) (by omega), r 4 (by omega) (by omega), r 5 (by omega) (by omega), r 6 (by omega) (by omega), r 7 (by omega) (by omega)]
    refine ⟨⟨h2.1.trans c0, h2.2.1.trans c1, h2.2.2.1.trans c2, h2.2.2.2.1.trans c3, h2.2.2.2.2⟩, fun c hc => ?_, fun c hc => ?_, fun i hi => ?_, fun k hk => ?_, h3⟩
    · rw [n _ (by omega) (by omega)]; exact b1 c hc
    · rw [n _ (by omega) (by omega)]; exact b2 c hc
    · obtain ⟨e1, e2, e3, e4⟩ := b3 i hi
      rw [n (101 + i) (by omega) (by omega), n (107 + i) (by omega) (by omega), n (113 + i) (by omega) (by omega)]
      exact ⟨e1, e2, e3, fun r hr => by rw [n _ (by omega) (by omega)]; exact e4 r hr⟩
    · rw [n _ (by omega) (by omega)]; exact b4 k hk
  have k1 : ∀ c, c < 48 → I (q + 1) c = nI (w (5 + c)) := b1
  have k8 : ∀ k, k < 48 * w 4 → I (q + 8) k = nI (w (175 + k)) := b5
  by_cases z : w 4 = 6
  · have hu : wu w = 5 := by unfold wu; rw [if_pos z]
    refine ⟨zup (zrow (zup (zrow I (q + 8) (va_cpy (I (q + 8)) (I (q + 8)) 48 0 240)) q 4 5) (q + 8) (va_cpy (I (q + 1)) (va_cpy (I (q + 8)) (I (q + 8)) 48 0 240) 0 240 48)) q 4 (nI 6), fun i i1 i2 => by rw [zup_ne i1, zrow_ne i2, zup_ne i1, zrow_ne i2], fin _ (fun i i1 i2 => by rw [zup_ne i1, zrow_ne i2, zup_ne i1, zrow_ne i2]) ?_ ?_, ?_⟩
    · rw [zup_self, zrow_ne (by omega), zup_self, zrow_ne (by omega), hu]
      simp [upd]
    · intro k hk
      rw [zup_ne (by omega), zrow_self]
      unfold wkp
      rw [hu] at hk ⊢
      rw [if_neg (by omega), if_pos (by omega)]
      show (if 240 ≤ k ∧ k < 240 + 48 then I (q + 1) (0 + (k - 240)) else if 0 ≤ k ∧ k < 0 + 240 then I (q + 8) (48 + (k - 0)) else I (q + 8) k) = _
      by_cases y : 240 ≤ k
      · rw [if_pos (by omega), if_pos (by omega), k1 _ (by omega), show 5 + (0 + (k - 240)) = 5 + (175 + k - 175 - 48 * 5) by omega]
      · rw [if_neg (by omega), if_pos (by omega), if_neg (by omega), if_pos (by omega), k8 _ (by omega), show 175 + (48 + (k - 0)) = 175 + k + 48 by omega]
    · refine zCall.of okX4_keepSlopes (Nat.le_of_ble_eq_true rfl) ⟨Nat.le_refl _, Nat.le_refl _⟩ (fun G => tX4_keepSlopes_0 hq ⟨fun y => absurd y (by rw [k4, z]; decide), fun _ => ⟨by decide, ?_⟩⟩)
      rintro I5 rfl I6 h6
      have e : zup (zrow I (q + 8) (va_cpy (I (q + 8)) (I (q + 8)) (zx 48) (zx 0) (zx 240))) q 4 5 q 4 = 5 := by rw [zup_self]; simp [upd]
      rw [e, show (5 : Int32) * 48 = 240 from rfl]
      refine ⟨by decide, ?_⟩
      rintro I8 rfl
      subst h6
      rw [zrow_ne (a := q) (by omega), e, zup_ne (a := q + 1) (by omega), zup_ne (a := q + 8) (by omega), zrow_ne (a := q + 1) (by omega), zrow_self]
      rfl
  · have hu : wu w = w 4 := by unfold wu; rw [if_neg z]
    refine ⟨zup (zrow I (q + 8) (va_cpy (I (q + 1)) (I (q + 8)) 0 (48 * w 4) 48)) q 4 (nI (w 4 + 1)), fun i i1 i2 => by rw [zup_ne i1, zrow_ne i2], fin _ (fun i i1 i2 => by rw [zup_ne i1, zrow_ne i2]) ?_ ?_, ?_⟩
    · rw [zup_self, zrow_ne (by omega), hu]
      simp [upd]
    · intro k hk
      rw [zup_ne (by omega), zrow_self]
      unfold wkp
      rw [hu] at hk ⊢
      rw [if_neg (by omega), if_pos (by omega)]
      show (if 48 * w 4 ≤ k ∧ k < 48 * w 4 + 48 then I (q + 1) (0 + (k - 48 * w 4)) else I (q + 8) k) = _
      by_cases y : 48 * w 4 ≤ k
      · rw [if_pos (by omega), if_pos (by omega), k1 _ (by omega)]
        congr 2; omega
      · rw [if_neg (by omega), if_neg (by omega), if_neg (by omega), k8 _ (by omega)]
    · refine zCall.of okX4_keepSlopes (Nat.le_of_ble_eq_true rfl) ⟨Nat.le_refl _, Nat.le_refl _⟩ (fun G => tX4_keepSlopes_0 hq ⟨fun _ => ?_, fun y => absurd (by rw [k4]; exact nI_lt (b := 6) (by omega) (by decide)) y⟩)
      rw [zrow_ne (a := q) (by omega), k4, show (48 : Int32) = nI 48 from rfl, pk_mul, Nat.mul_comm (w 4) 48, zx_nI (show 48 * w 4 < 2 ^ 31 by omega), nI_1, show zx 0 = 0 from rfl, show zx (nI 48) = 48 from rfl]
      refine ⟨⟨⟨by decide, nIneg (by omega), by decide⟩, by omega, by omega⟩, ?_⟩
      rintro I3 rfl
      rfl
theorem kX10_goersIn {r l : Nat} {w : zW} (hw : winv w) (ha : wAll I w (w 2)) (hr : r < w 0) (hl : l < 6) : zCall (d + 1) mX10_goersIn [.ref 43, .int (nI r), .int (nI l), .int (nI (w 2))] (zh b I L) (some (.int (nI (zct (fun i => decide (vL w i r = l)) (w 2)))), zh b I L) := by
  obtain ⟨⟨w0, w1, w2, w3, w4⟩, -⟩ := id hw
  refine zCall.of okX10_goersIn (Nat.le_of_ble_eq_true rfl) ⟨Nat.le_refl _, Nat.le_refl _⟩ (fun G => tX10_goersIn_0 ?_)
  refine z_for (n := w 2) (P := fun i => zA G (d + 1) mX10_goersIn 6 [some (.ref 43), some (.int (nI r)), some (.int (nI l)), some (.int (nI (w 2))), some (.int (nI (zct (fun i => decide (vL w i r = l)) i))), some (.int (nI i))] [] (zh b I L) _) ?_ ?_ 0 (Nat.zero_le _)
  · exact tX10_goersIn_6 zR0.w ⟨fun _ => rfl, fun q => absurd (nI_le (Nat.le_refl _) (by omega)) q⟩
  · intro i hi ih
    have hv := vL_lt hw hi r (by omega)
    have c : nI (vL w i r) = nI l ↔ vL w i r = l := nI_eq (by omega) (by omega)
    refine tX10_goersIn_6 zR0.w ⟨fun q => absurd q (nI_ge hi (by omega)), fun _ => ?_⟩
    rw [zwayC, zx_nI (by omega), (ha i hi).1 r (by omega), nI_1, nI_1]
    refine ⟨zv_in (by omega) (by decide), fun q => ?_, fun q => ?_⟩
    · rw [zct_f (p := fun i => decide (vL w i r = l)) (decide_eq_false (fun y => q (c.mpr y)))] at ih; exact ih
    · rw [zct_t (p := fun i => decide (vL w i r = l)) (decide_eq_true (c.mp q))] at ih; exact ih
/-- worn as far as cell n -/
def wwr (w : zW) (n c : Nat) : Nat := if c < n then wwear w c else w (5 + c)
theorem wwr_skip {w : zW} (hw : winv w) {n m : Nat} (h : ∀ c, n ≤ c → c < m → w 0 ≤ c / 6 ∨ w 1 ≤ c % 6) (hm : n ≤ m) : wwr w m = wwr w n := by
  funext c
  unfold wwr
  by_cases z : c < n
  · rw [if_pos z, if_pos (by omega)]
  · by_cases y : c < m
    · rw [if_pos y, if_neg z]
      unfold wwear
      rw [wtr_0 hw (h c (by omega) y) _ (Nat.le_refl _), if_neg (by omega)]
    · rw [if_neg y, if_neg z]
theorem kX11_wear {w : zW} (hb : zbl b) (hw : winv w) (e0 : I b 0 = nI (w 0)) (e1 : I b 1 = nI (w 1)) (e2 : I b 2 = nI (w 2)) (hs : ∀ c, c < 48 → I (b + 1) c = nI (w (5 + c))) (ha : wAll I w (w 2)) : ∃ J, (∀ i, i ≠ b + 1 → J i = I i) ∧ (∀ c, c < 48 → J (b + 1) c = nI (wwear w c)) ∧ zCall (d + 2) mX11_wearSlopes [.ref 0] (zh b I L) (none, zh b J L) := by
  obtain ⟨⟨w0, w1, w2, w3, w4⟩, a1, -⟩ := id hw
  have hb44 := hb.lt44
  have key := z_for (n := w 0) (P := fun r => ∀ J, (∀ i, i ≠ b + 1 → J i = I i) → (∀ c, c < 48 → J (b + 1) c = nI (wwr w (6 * r) c)) → ∃ J', (∀ i, i ≠ b + 1 → J' i = I i) ∧ (∀ c, c < 48 → J' (b + 1) c = nI (wwear w c)) ∧ ∀ G, zA G (d + 2) mX11_wearSlopes 2 [some (.ref 0), some (.int (nI r)), none] [] (zh b J L) (none, zh b J' L)) ?_ ?_ 0 (Nat.zero_le _)
  · obtain ⟨J', h1, h2, h3⟩ := key I (fun _ _ => rfl) (fun c hc => by unfold wwr; rw [if_neg (by omega)]; exact hs c hc)
    exact ⟨J', h1, h2, zCall.of okX11_wearSlopes (Nat.le_of_ble_eq_true rfl) ⟨Nat.le_refl _, Nat.le_refl _⟩ (fun G => tX11_wearSlopes_0 (h3 G))⟩
  · intro J hJ hp
    refine ⟨J, hJ, fun c hc => ?_, fun G => tX11_wearSlopes_2 hb ⟨fun _ => rfl, fun q => absurd (by rw [hJ b (by omega), e0]; exact nI_le (Nat.le_refl _) (by omega)) q⟩⟩
    rw [hp c hc, ← wwr_skip hw (n := 6 * w 0) (m := 48) (fun c h1 h2 => by omega) (by omega)]
    unfold wwr
    rw [if_pos hc]
  · intro r hr ih J hJ hp
    have inner := z_for (n := w 1) (P := fun l => ∀ J, (∀ i, i ≠ b + 1 → J i = I i) → (∀ c, c < 48 → J (b + 1) c = nI (wwr w (6 * r + l) c)) → ∃ J', (∀ i, i ≠ b + 1 → J' i = I i) ∧ (∀ c, c < 48 → J' (b + 1) c = nI (wwear w c)) ∧ ∀ G, zA G (d + 2) mX11_wearSlopes 15 [some (.ref 0), some (.int (nI r)), some (.int (nI l))] [] (zh b J L) (none, zh b J' L)) ?_ ?_ 0 (Nat.zero_le _)
    · obtain ⟨J', h1, h2, h3⟩ := inner J hJ hp
      exact ⟨J', h1, h2, fun G => tX11_wearSlopes_2 hb ⟨fun q => absurd q (by rw [hJ b (by omega), e0]; exact nI_ge hr (by omega)), fun _ => h3 G⟩⟩
    · intro J hJ hp
      obtain ⟨J', h1, h2, h3⟩ := ih J hJ (fun c hc => by
        rw [hp c hc, wwr_skip hw (n := 6 * r + w 1) (m := 6 * (r + 1)) (fun c h1 h2 => by omega) (by omega)])
      exact ⟨J', h1, h2, fun G => tX11_wearSlopes_15 hb zR0.w ⟨fun _ => by rw [nI_1]; exact h3 G, fun q => absurd (by rw [hJ b (by omega), e1]; exact nI_le (Nat.le_refl _) (by omega)) q⟩⟩
    · intro l hl ih2 J hJ hp
      have hal : wAll J w (w 2) := fun i hi => by
        obtain ⟨g1, g2, g3, g4⟩ := ha i hi
        unfold wOne
        rw [hJ 44 (by omega), hJ 45 (by omega), hJ 46 (by omega), hJ 47 (by omega)]
        exact ⟨g1, g2, g3, g4⟩
      have hcell : 6 * r + l < 48 := by omega
      have et : wtr w (w 2) (6 * r + l) = zct (fun i => decide (vL w i r = l)) (w 2) := by
        unfold wtr
        rw [if_pos (by omega), show (6 * r + l) / 6 = r by omega, show (6 * r + l) % 6 = l by omega]
      have hz := zct_le (p := fun i => decide (vL w i r = l)) (w 2)
      have hsl := a1 (6 * r + l) hcell
      have eo : J (b + 1) (6 * r + l) = nI (w (5 + (6 * r + l))) := by
        rw [hp _ hcell]; unfold wwr; rw [if_neg (by omega)]
      have kg := kX10_goersIn (d := d) (b := b) (L := L) hw hal hr (show l < 6 by omega)
      by_cases z : zct (fun i => decide (vL w i r = l)) (w 2) < 2
      · obtain ⟨J', h1, h2, h3⟩ := ih2 J hJ (fun c hc => by
          rw [hp c hc]
          unfold wwr
          by_cases y : c < 6 * r + l
          · rw [if_pos y, if_pos (by omega)]
          · by_cases x : c = 6 * r + l
            · subst x
              rw [if_neg y, if_pos (by omega)]
              unfold wwear
              rw [et, if_neg (by omega)]
            · rw [if_neg y, if_neg (by omega)])
        refine ⟨J', h1, h2, fun G => tX11_wearSlopes_15 hb zR0.w ⟨fun q => absurd q (by rw [hJ b (by omega), e1]; exact nI_ge hl (by omega)), fun _ => ⟨_, by rw [hJ b (by omega), e2]; exact kg, fun _ => by rw [nI_1]; exact h3 G, fun q => absurd (nI_lt (b := 2) z (by decide)) q⟩⟩⟩
      · obtain ⟨J', h1, h2, h3⟩ := ih2 (zup J (b + 1) (6 * r + l) (nI (wwear w (6 * r + l)))) (fun i hi => by rw [zup_ne hi]; exact hJ i hi) (fun c hc => by
          rw [zup_self]
          simp only [upd]
          unfold wwr
          by_cases x : c = 6 * r + l
          · subst x; rw [if_pos rfl, if_pos (by omega)]
          · rw [if_neg x, hp c hc]
            unfold wwr
            by_cases y : c < 6 * r + l
            · rw [if_pos y, if_pos (by omega)]
            · rw [if_neg y, if_neg (by omega)])
        refine ⟨J', h1, h2, fun G => tX11_wearSlopes_15 hb zR0.w ⟨fun q => absurd q (by rw [hJ b (by omega), e1]; exact nI_ge hl (by omega)), fun _ => ⟨_, by rw [hJ b (by omega), e2]; exact kg, fun q => absurd ((nI_ltI (b := 2) (by omega) (by decide)).mp q) z, fun _ => ?_⟩⟩⟩
        rw [zcellC, zx_nI (by omega), eo, nI_1, nI_1]
        have ev : (if nI (w (5 + (6 * r + l)) + 1) < 9 then nI (w (5 + (6 * r + l)) + 1) else 9) = nI (wwear w (6 * r + l)) := by
          have cc : nI (w (5 + (6 * r + l)) + 1) < 9 ↔ w (5 + (6 * r + l)) + 1 < 9 := nI_ltI (b := 9) (by omega) (by decide)
          unfold wwear
          rw [et]
          by_cases y : w (5 + (6 * r + l)) + 1 < 9
          · rw [if_pos (cc.mpr y), if_pos (by omega)]
          · rw [if_neg (fun q => y (cc.mp q))]
            by_cases x : w (5 + (6 * r + l)) < 9
            · rw [if_pos (by omega), show w (5 + (6 * r + l)) + 1 = 9 by omega]; rfl
            · rw [if_neg (by omega), show w (5 + (6 * r + l)) = 9 by omega]; rfl
        rw [ev]
        exact ⟨zv_in hcell (by decide), zv_in hcell (by decide), h3 G⟩
end RUN
/-- the reference's hill, as it wears -/
def wsh (w : zW) : zW := fun k => if w 4 = 6 then (if k = 4 then 5 else if 175 ≤ k ∧ k < 415 then w (k + 48) else w k) else w k
def wmd (w : zW) (n : Nat) : zW := fun k => if 5 ≤ k ∧ k < 5 + n then wwear w (k - 5) else if 175 + 48 * wu w ≤ k ∧ k < 175 + 48 * wu w + n then w (5 + (k - 175 - 48 * wu w)) else wsh w k
theorem wsh_4 {w : zW} : wsh w 4 = wu w := by
  unfold wsh wu
  by_cases z : w 4 = 6
  · rw [if_pos z, if_pos z, if_pos rfl]
  · rw [if_neg z, if_neg z]
theorem wsh_lo {w : zW} {k : Nat} (h : k ≠ 4) (h2 : k < 175) : wsh w k = w k := by
  unfold wsh
  by_cases z : w 4 = 6
  · rw [if_pos z, if_neg h, if_neg (by omega)]
  · rw [if_neg z]
theorem wmd_end {w : zW} (h4 : w 4 ≤ 6) {k : Nat} (hk : k ≠ 4) : wmd w 48 k = wrn w k := by
  unfold wmd wrn wkp
  by_cases a : 5 ≤ k ∧ k < 53
  · rw [if_pos (by omega), if_pos a]
  · rw [if_neg (by omega), if_neg a, if_neg hk]
    by_cases c : 175 ≤ k
    · rw [if_pos c]
      by_cases e : 175 + 48 * wu w ≤ k ∧ k < 175 + 48 * wu w + 48
      · rw [if_pos e, if_pos e]
      · rw [if_neg e, if_neg e]
        unfold wsh
        by_cases z : w 4 = 6
        · rw [if_pos z, if_neg hk]
          by_cases y : k < 415
          · rw [if_pos ⟨c, y⟩, if_pos ⟨z, y⟩]
          · rw [if_neg (by omega), if_neg (by omega)]
        · rw [if_neg z, if_neg (by omega)]
    · rw [if_neg c, if_neg (by omega), wsh_lo hk (by omega)]
theorem p_run : zPair mX11_run mX12_run [] := by
  refine zPair.of fun σ hi => ?_
  obtain ⟨⟨hw0, hw1, hw2, hw3, hw4⟩, sl, -⟩ := id hi.1
  by_cases hv : σ.1 2 = 0
  · refine ⟨.int (-3), sNo σ, sc_no fun d b I L hc => ?_, sr_no fun d b I L hc => ?_, hi, Or.inl ⟨rfl, _, rfl⟩⟩
    · exact zCall.of okX11_run (Nat.le_of_ble_eq_true rfl) ⟨Nat.le_refl _, Nat.le_refl _⟩ (fun G => tX11_run_0 (d := d + 34) hc.1 zR0.w ⟨fun q => absurd (by rw [show I b 2 = nI (σ.1 2) from hc.2.1.1.2.2.1, hv]; rfl) q, fun _ => xNo _⟩)
    · exact zCall.of okX12_run (Nat.le_of_ble_eq_true rfl) ⟨Nat.le_refl _, Nat.le_refl _⟩ (fun G => tX12_run_0 (d := d + 33) zR0.w ⟨fun q => absurd (by rw [hc.1 2 (by decide), hv]; rfl) q, fun _ => yNo⟩)
  · obtain ⟨a, ha⟩ := wpl_ex σ.1 0 (σ.1 2)
    have hu := wu_le hw4
    refine ⟨.int a, (wrn σ.1, σ.2), fun d b I L hc => ?_, fun d b I L hc => ?_, ⟨winv_rn hi.1, hi.2⟩, Or.inl ⟨rfl, _, rfl⟩⟩
    · obtain ⟨J, h1, h2, h3⟩ := kX10_followAll (d := d + 34) (b := b) (L := L) hc.1.hl hi.1 hc.2.1
      have hc' := hc.w47 h1
      have hb44 := hc.1.lt44
      obtain ⟨J2, g1, g2, g3⟩ := kX4_keepSlopes (d := d + 38) (b := b) (L := L) hc.1.hl hi.1 hc'.2.1
      have lo : ∀ k, k ≠ 4 → k < 175 → wkp σ.1 k = σ.1 k := fun k q1 q2 => by unfold wkp; rw [if_neg q1, if_neg (by omega)]
      have al2 : wAll J2 σ.1 (σ.1 2) := fun i hi => by
        obtain ⟨m1, m2, m3, m4⟩ := h2 i hi
        unfold wOne
        rw [g1 44 (by omega) (by omega), g1 45 (by omega) (by omega), g1 46 (by omega) (by omega), g1 47 (by omega) (by omega)]
        exact ⟨m1, m2, m3, m4⟩
      obtain ⟨J3, k1, k2, k3⟩ := kX11_wear (d := d + 37) (b := b) (L := L) hc.1 hi.1 (g2.1.1.trans (by rw [lo 0 (by omega) (by omega)])) (g2.1.2.1.trans (by rw [lo 1 (by omega) (by omega)])) (g2.1.2.2.1.trans (by rw [lo 2 (by omega) (by omega)])) (fun c hc => (g2.2.1 c hc).trans (by rw [lo _ (by omega) (by omega)])) al2
      refine ⟨b, J3, L, zCall.of okX11_run (Nat.le_of_ble_eq_true rfl) ⟨Nat.le_refl _, Nat.le_refl _⟩ (fun G => tX11_run_0 (d := d + 34) hc.1 zR0.w ⟨fun _ => ⟨J, h3, a, kX11_runnerInPlace (d := d + 37) (k := 0) hc' hi.1 h2 (by decide) ha, J2, g3, J3, k3, rfl⟩, fun q => absurd q (by rw [show I b 2 = nI (σ.1 2) from hc.2.1.1.2.2.1]; exact nI_ne0 (by omega) (by omega))⟩), ?_, ?_, zhiL.rf⟩
      · refine hc'.land ?_ (fun i h1 h2 => by rw [k1 i (by omega), g1 i (by omega) (by omega)])
        obtain ⟨c0, c1, c2, c3, c4, c5⟩ := g2
        have r : ∀ k, k ≠ 1 → zat J3 b k = zat J2 b k := fun k hk => k1 (b + k) (by omega)
        have nn : ∀ k, (k < 5 ∨ 53 ≤ k) → wrn σ.1 k = wkp σ.1 k := fun k hk => by unfold wrn; rw [if_neg (by omega)]
        unfold hr
        rw [nn 0 (by omega), nn 1 (by omega), nn 2 (by omega), nn 3 (by omega), nn 4 (by omega), r 0 (by omega), r 2 (by omega), r 3 (by omega), r 4 (by omega), r 5 (by omega), r 6 (by omega), r 7 (by omega), r 8 (by omega)]
        refine ⟨c0, fun c hc => ?_, fun c hc => by rw [nn _ (by omega)]; exact c2 c hc, fun i hi => ?_, fun k hk => by rw [nn _ (by omega)]; exact c4 k hk, fun k hk => by rw [nn _ (by omega)]; exact c5 k hk⟩
        · unfold wrn
          rw [if_pos (by omega), show 5 + c - 5 = c by omega]
          exact k2 c hc
        · rw [nn _ (by omega), nn _ (by omega), nn _ (by omega)]
          obtain ⟨e1, e2, e3, e4⟩ := c3 i hi
          exact ⟨e1, e2, e3, fun r hr => by rw [nn _ (by omega)]; exact e4 r hr⟩
      · intro i hi'
        rw [k1 i (by omega), g1 i (by omega) (by omega), h1 i (by omega)]
    · obtain ⟨J1, p1, p2⟩ := kX12_place (d := d + 33) (b := b) (L := L) hi.1 hc.1 (k := 0) (by decide) ha
      have fr : ∀ {J J' : Nat → Nat → Int32} {x k : Nat} {v : Int32}, (∀ i, (i ≠ 57 ∧ (i < 63 ∨ 73 < i)) → J i = I i) → (x = 57 ∨ (63 ≤ x ∧ x ≤ 73)) → (∀ i, (i ≠ 57 ∧ (i < 63 ∨ 73 < i)) → zup J x k v i = I i) := fun h hx i hi => by rw [zup_ne (by omega)]; exact h i hi
      -- the last loop
      have last := z_for (n := 48) (P := fun n => ∀ J, (∀ i, (i ≠ 57 ∧ (i < 63 ∨ 73 < i)) → J i = I i) → (∀ k, k < 463 → J 57 k = nI (wmd σ.1 n k)) → (∀ c, c < 48 → J 72 c = nI (wtr σ.1 (σ.1 2) c)) → ∃ J', (∀ i, (i ≠ 57 ∧ (i < 63 ∨ 73 < i)) → J' i = I i) ∧ (∀ k, k < 463 → J' 57 k = nI (wrn σ.1 k)) ∧ ∀ G, zA G (d + 40) mX12_run 162 [some (.ref 56), some (.int a), some (.int (nI n)), none] [] (zh b J L) (some (.int a), zh b J' L)) ?_ ?_ 0 (Nat.zero_le _)
      · -- the shift
        have shift : ∀ J, (∀ i, (i ≠ 57 ∧ (i < 63 ∨ 73 < i)) → J i = I i) → (∀ k, k < 463 → J 57 k = nI (σ.1 k)) → (∀ c, c < 48 → J 72 c = nI (wtr σ.1 (σ.1 2) c)) → ∃ J', (∀ i, (i ≠ 57 ∧ (i < 63 ∨ 73 < i)) → J' i = I i) ∧ (∀ k, k < 463 → J' 57 k = nI (wrn σ.1 k)) ∧ ∀ G, zA G (d + 40) mX12_run 45 [some (.ref 56), some (.int a), some (.int (nI (σ.1 2))), none] [] (zh b J L) (some (.int a), zh b J' L) := by
          intro J hJ hn ht
          have e2 := hn 2 (by decide)
          have e4 := hn 4 (by decide)
          have m0 : wmd σ.1 0 = wsh σ.1 := by funext k; unfold wmd; rw [if_neg (by omega), if_neg (by omega)]
          by_cases z : σ.1 4 = 6
          · have loop := z_for (n := 240) (P := fun n => ∀ J, (∀ i, (i ≠ 57 ∧ (i < 63 ∨ 73 < i)) → J i = I i) → (∀ k, k < 463 → J 57 k = nI (if 175 ≤ k ∧ k < 175 + n then σ.1 (k + 48) else σ.1 k)) → (∀ c, c < 48 → J 72 c = nI (wtr σ.1 (σ.1 2) c)) → ∃ J', (∀ i, (i ≠ 57 ∧ (i < 63 ∨ 73 < i)) → J' i = I i) ∧ (∀ k, k < 463 → J' 57 k = nI (wrn σ.1 k)) ∧ ∀ G, zA G (d + 40) mX12_run 117 [some (.ref 56), some (.int a), some (.int (nI n)), none] [] (zh b J L) (some (.int a), zh b J' L)) ?_ ?_ 0 (Nat.zero_le _)
            · obtain ⟨J', q1, q2, q3⟩ := loop J hJ (fun k hk => by rw [hn k hk, if_neg (by omega)]) ht
              refine ⟨J', q1, q2, fun G => tX12_run_45 (d := d + 33) zR0.w ⟨fun _ => ⟨fun y => absurd (by rw [e4, z]; rfl) y, fun _ => q3 G⟩, fun y => absurd (by rw [e2]; exact nI_le (Nat.le_refl _) (by omega)) y⟩⟩
            · intro J hJ hn ht
              have e4' : J 57 4 - 1 = nI 5 := by rw [hn 4 (by decide), if_neg (by omega), z]; rfl
              obtain ⟨J', q1, q2, q3⟩ := last (zup J 57 4 (nI 5)) (fr (J' := J) hJ (Or.inl rfl)) (fun k hk => by
                rw [m0, zup_self]
                simp only [upd]
                unfold wsh
                rw [if_pos z]
                by_cases y : k = 4
                · rw [if_pos y, if_pos y]
                · rw [if_neg y, if_neg y, hn k hk]) (fun c hc => by rw [zup_ne (by decide)]; exact ht c hc)
              refine ⟨J', q1, q2, fun G => tX12_run_117 (d := d + 33) ⟨fun _ => ?_, fun y => absurd (by decide) y⟩⟩
              rw [e4']
              exact q3 G
            · intro n hn240 ih J hJ hn ht
              obtain ⟨J', q1, q2, q3⟩ := ih (zup J 57 (175 + n) (nI (σ.1 (223 + n)))) (fr (J' := J) hJ (Or.inl rfl)) (fun k hk => by
                rw [zup_self]
                simp only [upd]
                by_cases y : k = 175 + n
                · subst y
                  rw [if_pos rfl, if_pos (by omega), show 175 + n + 48 = 223 + n by omega]
                · rw [if_neg y, hn k hk]
                  by_cases x : 175 ≤ k ∧ k < 175 + n
                  · rw [if_pos x, if_pos (by omega)]
                  · rw [if_neg x, if_neg (by omega)]) (fun c hc => by rw [zup_ne (by decide)]; exact ht c hc)
              refine ⟨J', q1, q2, fun G => tX12_run_117 (d := d + 33) ⟨fun y => absurd y (nI_ge (b := 240) hn240 (by decide)), fun _ => ?_⟩⟩
              rw [show (223 : Int32) = nI 223 from rfl, show (175 : Int32) = nI 175 from rfl, nI_add, nI_add, zx_nI (by omega), zx_nI (by omega), hn (223 + n) (by omega), if_neg (by omega), nI_1]
              exact ⟨zv_in (by omega) (by decide), zv_in (by omega) (by decide), q3 G⟩
          · obtain ⟨J', q1, q2, q3⟩ := last J hJ (fun k hk => by rw [m0, hn k hk]; unfold wsh; rw [if_neg z]) ht
            exact ⟨J', q1, q2, fun G => tX12_run_45 (d := d + 33) zR0.w ⟨fun _ => ⟨fun _ => q3 G, fun y => absurd ((nIc (c := 6) (by omega) (by decide)).mp (by rw [← e4]; exact y)) z⟩, fun y => absurd (by rw [e2]; exact nI_le (Nat.le_refl _) (by omega)) y⟩⟩
        -- the treading
        have tread := z_for (n := σ.1 2) (P := fun i => ∀ J, z63 I J → (∀ c, c < 48 → J 72 c = nI (wtr σ.1 i c)) → ∃ J', (∀ i, (i ≠ 57 ∧ (i < 63 ∨ 73 < i)) → J' i = I i) ∧ (∀ k, k < 463 → J' 57 k = nI (wrn σ.1 k)) ∧ ∀ G, zA G (d + 40) mX12_run 45 [some (.ref 56), some (.int a), some (.int (nI i)), none] [] (zh b J L) (some (.int a), zh b J' L)) (fun J hJ ht => shift J (fun i hi => hJ i (by omega)) (hJ.now hc.1) ht) ?_ 0 (Nat.zero_le _)
        · have zero := z_for (n := 48) (P := fun n => ∀ J, z63 I J → (∀ c, c < n → J 72 c = 0) → ∃ J', (∀ i, (i ≠ 57 ∧ (i < 63 ∨ 73 < i)) → J' i = I i) ∧ (∀ k, k < 463 → J' 57 k = nI (wrn σ.1 k)) ∧ ∀ G, zA G (d + 40) mX12_run 24 [some (.ref 56), some (.int a), some (.int (nI n)), none] [] (zh b J L) (some (.int a), zh b J' L)) ?_ ?_ 0 (Nat.zero_le _)
          · obtain ⟨J', q1, q2, q3⟩ := zero J1 p1 (fun c hc => absurd hc (Nat.not_lt_zero c))
            exact ⟨J', L, zCall.of okX12_run (Nat.le_of_ble_eq_true rfl) ⟨Nat.le_refl _, Nat.le_refl _⟩ (fun G => tX12_run_0 (d := d + 33) zR0.w ⟨fun _ => ⟨a, J1, p2, q3 G⟩, fun q => absurd q (by rw [hc.1 2 (by decide)]; exact nI_ne0 (by omega) (by omega))⟩), hc.now q2 ⟨by rw [q1 56 (by omega)], fun i hi => q1 i (by omega)⟩, fun i hi => q1 i (by omega), zloL.rf⟩
          · intro J hJ hz
            obtain ⟨J', q1, q2, q3⟩ := tread J hJ (fun c hc => by
              rw [hz c hc]
              unfold wtr
              split <;> rfl)
            exact ⟨J', q1, q2, fun G => tX12_run_24 (d := d + 33) ⟨fun _ => q3 G, fun y => absurd (by decide) y⟩⟩
          · intro n hn ih J hJ hz
            obtain ⟨J', q1, q2, q3⟩ := ih (zup J 72 n 0) (hJ.up (by decide)) (fun c hc => by
              rw [zup_self]
              simp only [upd]
              by_cases y : c = n
              · rw [if_pos y]
              · rw [if_neg y]; exact hz c (by omega))
            refine ⟨J', q1, q2, fun G => tX12_run_24 (d := d + 33) ⟨fun y => absurd y (nI_ge (b := 48) hn (by decide)), fun _ => ?_⟩⟩
            rw [zx_nI (by omega), nI_1]
            exact ⟨zv_in hn (by decide), q3 G⟩
        · intro i hil ih J hJ ht
          have e2 : J 57 2 = nI (σ.1 2) := hJ.now hc.1 2 (by decide)
          have rows := z_for (n := σ.1 0) (P := fun r => ∀ J, z63 I J → (∀ k, k ≤ σ.1 0 → J 63 k = nI (vL σ.1 i k)) → (∀ c, c < 48 → J 72 c = nI (wtr σ.1 i c + if c / 6 < r ∧ vL σ.1 i (c / 6) = c % 6 then 1 else 0)) → ∃ J', (∀ i, (i ≠ 57 ∧ (i < 63 ∨ 73 < i)) → J' i = I i) ∧ (∀ k, k < 463 → J' 57 k = nI (wrn σ.1 k)) ∧ ∀ G, zA G (d + 40) mX12_run 62 [some (.ref 56), some (.int a), some (.int (nI i)), some (.int (nI r))] [] (zh b J L) (some (.int a), zh b J' L)) ?_ ?_ 0 (Nat.zero_le _)
          · obtain ⟨J', q1, q2, q3⟩ := rows (zwk J σ.1 i 9 (σ.1 0)) hJ.wk (fun k hk => zwk_63 hk) (fun c hc => by
              rw [zwk_ne (by omega), ht c hc, if_neg (by omega)]; rfl)
            exact ⟨J', q1, q2, fun G => tX12_run_45 (d := d + 33) zR0.w ⟨fun y => absurd y (by rw [e2]; exact nI_ge hil (by omega)), fun _ => ⟨_, kX12_walks (d := d + 36) hi.1 (hJ.now hc.1) hil, q3 G⟩⟩⟩
          · intro J hJ _ ht
            have e0 : J 57 0 = nI (σ.1 0) := hJ.now hc.1 0 (by decide)
            obtain ⟨J', q1, q2, q3⟩ := ih J hJ (fun c hc => by rw [ht c hc, wtr_s])
            exact ⟨J', q1, q2, fun G => tX12_run_62 (d := d + 33) ⟨fun _ => by rw [nI_1]; exact q3 G, fun y => absurd (by rw [e0]; exact nI_le (Nat.le_refl _) (by omega)) y⟩⟩
          · intro r hr ih2 J hJ hl ht
            have e0 : J 57 0 = nI (σ.1 0) := hJ.now hc.1 0 (by decide)
            have hv := vL_lt hi.1 hil r (by omega)
            obtain ⟨J', q1, q2, q3⟩ := ih2 (zup J 72 (6 * r + vL σ.1 i r) (J 72 (6 * r + vL σ.1 i r) + 1)) (hJ.up (by decide)) (fun k hk => by rw [zup_ne (by decide)]; exact hl k hk) (fun c hc => by
              rw [zup_self]
              simp only [upd]
              by_cases y : c = 6 * r + vL σ.1 i r
              · subst y
                rw [if_pos rfl, ht _ hc, if_neg (by omega), nI_1, if_pos ⟨by omega, by rw [show (6 * r + vL σ.1 i r) / 6 = r by omega]; omega⟩]
              · rw [if_neg y, ht c hc]
                by_cases x : c / 6 < r ∧ vL σ.1 i (c / 6) = c % 6
                · rw [if_pos x, if_pos ⟨by omega, x.2⟩]
                · rw [if_neg x]
                  by_cases v : c / 6 < r + 1 ∧ vL σ.1 i (c / 6) = c % 6
                  · exfalso
                    have : c / 6 = r := by
                      by_cases u : c / 6 < r
                      · exact absurd ⟨u, v.2⟩ x
                      · omega
                    rw [this] at v
                    omega
                  · rw [if_neg v])
            refine ⟨J', q1, q2, fun G => tX12_run_62 (d := d + 33) ⟨fun y => absurd y (by rw [e0]; exact nI_ge hr (by omega)), fun _ => ?_⟩⟩
            rw [zx_nI (show r < 2 ^ 31 by omega), hl r (by omega), show (6 : Int32) = nI 6 from rfl, pk_mul, nI_add, zx_nI (by omega), nI_1]
            exact ⟨zv_in (by omega) (by decide), zv_in (by omega) (by decide), zv_in (by omega) (by decide), q3 G⟩
      · intro J hJ hn _
        have e4 : J 57 4 + 1 = nI (wu σ.1 + 1) := by
          rw [hn 4 (by decide)]
          unfold wmd
          rw [if_neg (by omega), if_neg (by omega), wsh_4, nI_1]
        refine ⟨zup J 57 4 (nI (wu σ.1 + 1)), fr (J' := J) hJ (Or.inl rfl), fun k hk => ?_, fun G => tX12_run_162 (d := d + 33) ⟨fun _ => by rw [e4], fun y => absurd (by decide) y⟩⟩
        rw [zup_self]
        simp only [upd]
        by_cases y : k = 4
        · subst y; rw [if_pos rfl]; unfold wrn wkp; rw [if_neg (by omega), if_pos rfl]
        · rw [if_neg y, hn k hk, wmd_end hw4 y]
      · intro n hn48 ih J hJ hn ht
        have e4 : J 57 4 = nI (wu σ.1) := by
          rw [hn 4 (by decide)]
          unfold wmd
          rw [if_neg (by omega), if_neg (by omega), wsh_4]
        have e5 : J 57 (5 + n) = nI (σ.1 (5 + n)) := by
          rw [hn _ (by omega)]
          unfold wmd
          rw [if_neg (by omega), if_neg (by omega), wsh_lo (by omega) (by omega)]
        have hs := sl n hn48
        have hz : wtr σ.1 (σ.1 2) n ≤ 6 := by
          unfold wtr
          split
          · exact Nat.le_trans (zct_le _) hw2
          · omega
        obtain ⟨J', q1, q2, q3⟩ := ih (zup (zup J 57 (175 + 48 * wu σ.1 + n) (nI (σ.1 (5 + n)))) 57 (5 + n) (nI (wwear σ.1 n))) (fr (J' := J) (fr (J' := J) hJ (Or.inl rfl)) (Or.inl rfl)) (fun k hk => by
          rw [zup_self, zup_self]
          simp only [upd]
          by_cases y : k = 5 + n
          · subst y
            rw [if_pos rfl]
            unfold wmd
            rw [if_pos (by omega), show 5 + n - 5 = n by omega]
          · rw [if_neg y]
            by_cases x : k = 175 + 48 * wu σ.1 + n
            · subst x
              rw [if_pos rfl]
              unfold wmd
              rw [if_neg (by omega), if_pos (by omega), show 175 + 48 * wu σ.1 + n - 175 - 48 * wu σ.1 = n by omega]
            · rw [if_neg x, hn k hk]
              unfold wmd
              by_cases u : 5 ≤ k ∧ k < 5 + n
              · rw [if_pos u, if_pos (by omega)]
              · rw [if_neg u, if_neg (show ¬ (5 ≤ k ∧ k < 5 + (n + 1)) by omega)]
                by_cases v : 175 + 48 * wu σ.1 ≤ k ∧ k < 175 + 48 * wu σ.1 + n
                · rw [if_pos v, if_pos (by omega)]
                · rw [if_neg v, if_neg (by omega)]) (fun c hc => by rw [zup_ne (by decide), zup_ne (by decide)]; exact ht c hc)
        refine ⟨J', q1, q2, fun G => tX12_run_162 (d := d + 33) ⟨fun y => absurd y (nI_ge (b := 48) hn48 (by decide)), fun _ => ?_⟩⟩
        have f5 : zup J 57 (175 + 48 * wu σ.1 + n) (nI (σ.1 (5 + n))) 57 (5 + n) = nI (σ.1 (5 + n)) := by
          rw [zup_self]
          simp only [upd]
          rw [if_neg (by omega), e5]
        rw [e4, show (5 : Int32) = nI 5 from rfl, show (175 : Int32) = nI 175 from rfl, show (48 : Int32) = nI 48 from rfl, pk_mul, nI_add, nI_add, nI_add, zx_nI (show 5 + n < 2 ^ 31 by omega), zx_nI (show 175 + 48 * wu σ.1 + n < 2 ^ 31 by omega), zx_nI (show n < 2 ^ 31 by omega), e5, f5, zup_ne (a := 72) (by decide), ht n hn48, nI_1]
        have cw : nI (wtr σ.1 (σ.1 2) n) ≤ 1 ↔ wtr σ.1 (σ.1 2) n ≤ 1 := nI_leI (b := 1) (by omega) (by decide)
        have c9 : (9 : Int32) ≤ nI (σ.1 (5 + n)) ↔ 9 ≤ σ.1 (5 + n) := nI_leI (a := 9) (by decide) (by omega)
        refine ⟨zv_in (by omega) (by decide), zv_in (by omega) (by decide), zv_in (by omega) (by decide), zv_in (by omega) (by decide), fun y => ⟨zv_in (by omega) (by decide), ?_⟩, fun y => ⟨zv_in (by omega) (by decide), fun x => ⟨zv_in (by omega) (by decide), ?_⟩, fun x => ⟨zv_in (by omega) (by decide), ?_⟩⟩⟩
        · rintro I8 rfl
          have : wwear σ.1 n = σ.1 (5 + n) := by
            unfold wwear
            rw [if_neg (fun q => absurd (cw.mp y) (by omega))]
          rw [this] at q3
          rw [Int32.add_zero]; exact q3 G
        · rintro I8 rfl
          have : wwear σ.1 n = σ.1 (5 + n) := by
            unfold wwear
            rw [if_neg (fun q => absurd (c9.mp x) (by omega))]
          rw [this] at q3
          rw [Int32.add_zero]; exact q3 G
        · rintro I8 rfl
          have : wwear σ.1 n = σ.1 (5 + n) + 1 := by
            unfold wwear
            rw [if_pos ⟨Nat.lt_of_not_le (fun q => y (cw.mpr q)), Nat.lt_of_not_le (fun q => x (c9.mpr q))⟩]
          rw [this] at q3
          rw [nI_1]; exact q3 G
