/-! the guide; pair: best -/
def z49 (I I' : Nat → Nat → Int32) : Prop := ∀ i, i ≠ 49 → I' i = I i
theorem z49.trans {I I' I'' : Nat → Nat → Int32} (h : z49 I I') (h' : z49 I' I'') : z49 I I'' := fun i hi => (h' i hi).trans (h i hi)
theorem z49.hr {I I' : Nat → Nat → Int32} {q : Nat} {w : zW} (hI : z49 I I') (hq : q + 8 < 44) (h : hr (zat I q) w) : hr (zat I' q) w := h.congr (fun k hk => hI (q + k) (by omega))
/-- what stands in 'left' is right -/
def zmem (I : Nat → Nat → Int32) (w : zW) (k W : Nat) : Prop := ∀ r l p, r < w 0 → l < w 1 → p ≤ 20 → I 49 ((6 * r + l) * 21 + p) = 0 ∨ I 49 ((6 * r + l) * 21 + p) = nI (wlf w k W (w 0 - r) r l p)
section GUIDE
variable {b : Nat} {L : Nat → Nat → Int64}
theorem kX3_bestStep {d o k W r l p : Nat} {w : zW} {n : Nat} (ho : zhl o) (hw : winv w) (hW : W ≤ 20) (hrr : n + (r + 1) = w 0) (hl : l < w 1) (hp : p ≤ 20)
    (hL : ∀ (I : Nat → Nat → Int32) (l : Nat), hr (zat I o) w → zmem I w k W → l < w 1 → ∃ J, z49 I J ∧ zmem J w k W ∧ zCall d mX3_leastFrom [.ref 48, .ref o, .ref (38 + k), .int (nI W), .int (nI (r + 1)), .int (nI l), .int (nI p)] (zh b I L) (some (.int (nI (wlf w k W n (r + 1) l p))), zh b J L))
    {I : Nat → Nat → Int32} (h : hr (zat I o) w) (hm : zmem I w k W) : ∃ J, z49 I J ∧ zmem J w k W ∧ zCall (d + 1) mX3_bestStep [.ref 48, .ref o, .ref (38 + k), .int (nI W), .int (nI r), .int (nI l), .int (nI p)] (zh b I L) (some (.int (nI (wbs w k W n r l p))), zh b J L) := by
  obtain ⟨⟨w0, w1, w2, w3, w4⟩, -⟩ := id hw
  have ho44 : o + 8 < 44 := by rcases ho with rfl | rfl | rfl | rfl <;> omega
  obtain ⟨J0, a1, a2, a3⟩ := hL I l h hm hl
  have s1 : wstp (w 1) l 1 < w 1 := wstp_lt hl
  have s2 : wstp (w 1) l 2 < w 1 := wstp_lt hl
  have s0 : wstp (w 1) l 0 = l := by unfold wstp; rw [if_neg (by omega), if_neg (by omega)]
  obtain ⟨J1, b1, b2, b3⟩ := hL J0 _ (a1.hr ho44 h) a2 s1
  obtain ⟨J2, c1, c2, c3⟩ := hL J1 _ (b1.hr ho44 (a1.hr ho44 h)) b2 s2
  have l1 : zlb (J0 o 1) (nI l) 1 = nI (wstp (w 1) l 1) := by
    rw [show J0 o 1 = nI (w 1) from (a1.hr ho44 h).1.2.1]
    exact zlb_nat (s := 1) (by omega) (by omega) (by omega) (by decide)
  have l2 : zlb (J1 o 1) (nI l) 2 = nI (wstp (w 1) l 2) := by
    rw [show J1 o 1 = nI (w 1) from (b1.hr ho44 (a1.hr ho44 h)).1.2.1]
    exact zlb_nat (s := 2) (by omega) (by omega) (by omega) (by decide)
  have B := wlf_le (w := w) (k := k) hW n (r + 1)
  refine ⟨J2, a1.trans (b1.trans c1), c2, zCall.of okX3_bestStep (Nat.le_of_ble_eq_true rfl) ⟨Nat.le_refl _, Nat.le_refl _⟩ (fun G => tX3_bestStep_0 ho zR0.w ⟨_, J0, by rw [nI_1]; exact a3, ?_⟩)⟩
  have fin : ∀ s c x, x = wbs w k W n r l p → x = s → zA G (d + 1) mX3_bestStep 23 [some (.ref 48), some (.ref o), some (.ref (38 + k)), some (.int (nI W)), some (.int (nI r)), some (.int (nI l)), some (.int (nI p)), some (.int (nI s)), some (.int c), some (.int (2 + 1)), none] [] (zh b J2 L) (some (.int (nI (wbs w k W n r l p))), zh b J2 L) := fun s c x hx hs => by
    refine tX3_bestStep_23 ho zR0.w ⟨fun _ => by rw [← hx, hs], fun q => absurd (by decide) q⟩
  have second : ∀ s v, s < 2 → v = wlf w k W n (r + 1) (wstp (w 1) l s) p → (wlf w k W n (r + 1) (wstp (w 1) l 2) p < v → wbs w k W n r l p = 2) → (¬ wlf w k W n (r + 1) (wstp (w 1) l 2) p < v → wbs w k W n r l p = s) → zA G (d + 1) mX3_bestStep 23 [some (.ref 48), some (.ref o), some (.ref (38 + k)), some (.int (nI W)), some (.int (nI r)), some (.int (nI l)), some (.int (nI p)), some (.int (nI s)), some (.int (nI v)), some (.int (1 + 1)), none] [] (zh b J1 L) (some (.int (nI (wbs w k W n r l p))), zh b J2 L) := fun s v hs hv t1 t2 => by
    have B1 := B (wstp (w 1) l s) p
    have B2 := B (wstp (w 1) l 2) p
    have c : nI v ≤ nI (wlf w k W n (r + 1) (wstp (w 1) l 2) p) ↔ v ≤ wlf w k W n (r + 1) (wstp (w 1) l 2) p := nI_leI (by omega) (by omega)
    rw [show (1 + 1 : Int32) = 2 from rfl]
    refine tX3_bestStep_23 ho zR0.w ⟨fun q => absurd q (by decide), fun _ => ⟨nI (wlf w k W n (r + 1) (wstp (w 1) l 2) p), J2, by rw [l2, nI_1]; exact c3, fun q => ?_, fun q => ?_⟩⟩
    · exact fin s _ _ (t2 (by have := c.mp q; omega)).symm rfl
    · exact fin 2 _ _ (t1 (Nat.lt_of_not_le (fun z => q (c.mpr z)))).symm rfl
  have B0 := B l p
  have B1 := B (wstp (w 1) l 1) p
  have c : nI (wlf w k W n (r + 1) l p) ≤ nI (wlf w k W n (r + 1) (wstp (w 1) l 1) p) ↔ wlf w k W n (r + 1) l p ≤ wlf w k W n (r + 1) (wstp (w 1) l 1) p := nI_leI (by omega) (by omega)
  refine tX3_bestStep_23 ho zR0.w ⟨fun q => absurd q (by decide), fun _ => ⟨nI (wlf w k W n (r + 1) (wstp (w 1) l 1) p), J1, by rw [l1, nI_1]; exact b3, fun q => ?_, fun q => ?_⟩⟩
  · have q := c.mp q
    refine second 0 _ (by decide) (by rw [s0]) (fun t => ?_) (fun t => ?_)
    · simp only [wbs, wb3, s0]
      rw [if_neg (by omega), if_pos t]
    · simp only [wbs, wb3, s0]
      rw [if_neg (by omega), if_neg t]
  · have q : ¬ wlf w k W n (r + 1) l p ≤ wlf w k W n (r + 1) (wstp (w 1) l 1) p := fun z => q (c.mpr z)
    refine second 1 _ (by decide) rfl (fun t => ?_) (fun t => ?_)
    · simp only [wbs, wb3, s0]
      rw [if_pos (by omega), if_pos t]
    · simp only [wbs, wb3, s0]
      rw [if_pos (by omega), if_neg t]
theorem kX3_leastFrom {o k W : Nat} {w : zW} (ho : zhl o) (hw : winv w) (hk : k < 5) (hW : W ≤ 20) : ∀ n d r, n + r = w 0 → ∀ (I : Nat → Nat → Int32) (l p : Nat), hr (zat I o) w → zmem I w k W → l < w 1 → p ≤ 20 → ∃ J, z49 I J ∧ zmem J w k W ∧ zCall (d + 2 * n + 4) mX3_leastFrom [.ref 48, .ref o, .ref (38 + k), .int (nI W), .int (nI r), .int (nI l), .int (nI p)] (zh b I L) (some (.int (nI (wlf w k W n r l p))), zh b J L) := by
  obtain ⟨⟨w0, w1, w2, w3, w4⟩, sl, gr, -⟩ := id hw
  have ho44 : o + 8 < 44 := by rcases ho with rfl | rfl | rfl | rfl <;> omega
  intro n
  induction n with
  | zero =>
    intro d r hr I l p h hm hl hp
    have e0 : I o 0 = nI (w 0) := h.1.1
    have : r = w 0 := by omega
    subst this
    exact ⟨I, fun _ _ => rfl, hm, zCall.of okX3_leastFrom (Nat.le_of_ble_eq_true rfl) ⟨Nat.le_refl _, Nat.le_refl _⟩ (fun G => tX3_leastFrom_0 hk ho zR0.w ⟨fun q => absurd q (by rw [e0]; exact fun z => absurd ((nI_ltI (by omega) (by omega)).mp z) (by omega)), fun _ => rfl⟩)⟩
  | succ n ih =>
    intro d r hr I l p h hm hl hp
    have e0 : I o 0 = nI (w 0) := h.1.1
    have hcell : 6 * r + l < 48 := by omega
    have hix : (6 * r + l) * 21 + p < 1008 := by omega
    have ei : (nI r * 6 + nI l) * 21 + nI p = nI ((6 * r + l) * 21 + p) := by rw [zcellC, show (21 : Int32) = nI 21 from rfl, pk_mul, nI_add]
    have eg : I (o + 2) (6 * r + l) = nI (w (53 + (6 * r + l))) := h.2.2.1 _ hcell
    have es : I (o + 1) (6 * r + l) = nI (w (5 + (6 * r + l))) := h.2.1 _ hcell
    have g3 := gr _ hcell
    have s9 := sl _ hcell
    have hx := wnp_le (w := w) (k := k) (r := r) (l := l) (p := p)
    have ep : zpw k (nI p) (nI (w (5 + (6 * r + l)))) (nI (w (53 + (6 * r + l)))) (nI r) = nI (wnp w k r l p) := by
      rw [zpw_nat hk (by omega) (by omega) (by omega) (by omega)]; rfl
    have eh : zhw k (nI (w (53 + (6 * r + l)))) (nI p) (nI (wnp w k r l p)) = nI (whm k p (wnp w k r l p) (w (53 + (6 * r + l)))) := zhw_nat hk (by omega) (by omega) (by omega)
    have et : ztw k (nI (w (53 + (6 * r + l)))) (nI (wnp w k r l p)) = nI (wtm k (wnp w k r l p) (w (53 + (6 * r + l)))) := ztw_nat hk (by omega) (by omega)
    have lt : nI r < I o 0 := by rw [e0]; exact nI_lt (by omega) (by omega)
    have wl := wlf_le (w := w) (k := k) hW (n + 1) r l p
    have wp := wlf_pos (w := w) (k := k) (W := W) (n := n) (r := r) (l := l) (p := p)
    by_cases z : I 49 ((6 * r + l) * 21 + p) = 0
    · obtain ⟨J1, a1, a2, a3⟩ := kX3_bestStep (d := d + 2 * n + 4) (n := n) (r := r) (l := l) (p := wnp w k r l p) ho hw hW (by omega) hl hx (fun I l h hm hl => ih d (r + 1) (by omega) I l _ h hm hl hx) h hm
      have st : wbs w k W n r l (wnp w k r l p) < 3 := wb3_lt _
      have h1 := a1.hr ho44 h
      obtain ⟨J2, b1, b2, b3⟩ := ih (d + 1) (r + 1) (by omega) J1 (wstp (w 1) l (wbs w k W n r l (wnp w k r l p))) (wnp w k r l p) h1 a2 (wstp_lt hl) hx
      have el : zlb (J1 o 1) (nI l) (nI (wbs w k W n r l (wnp w k r l p))) = nI (wstp (w 1) l (wbs w k W n r l (wnp w k r l p))) := by
        rw [show J1 o 1 = nI (w 1) from h1.1.2.1]
        exact zlb_nat (by omega) (by omega) (by omega) (by omega)
      refine ⟨zup J2 49 ((6 * r + l) * 21 + p) (nI (wlf w k W (n + 1) r l p)), fun i hi => by rw [zup_ne hi, b1 i hi, a1 i hi], fun r' l' p' hr' hl' hp' => ?_, zCall.of okX3_leastFrom (Nat.le_of_ble_eq_true rfl) ⟨Nat.le_refl _, Nat.le_refl _⟩ (fun G => tX3_leastFrom_0 (d := d + 2 * n + 2) hk ho zR0.w ⟨fun _ => ?_, fun q => absurd lt q⟩)⟩
      · rw [zup_self]
        simp only [upd]
        by_cases y : (6 * r' + l') * 21 + p' = (6 * r + l) * 21 + p
        · rw [if_pos y]
          have e1 : r' = r := by omega
          have e2 : l' = l := by omega
          have e3 : p' = p := by omega
          subst e1 e2 e3
          rw [show w 0 - r' = n + 1 by omega]
          exact Or.inr rfl
        · rw [if_neg y]; exact b2 r' l' p' hr' hl' hp'
      · rw [ei, zcellC, zx_nI (show (6 * r + l) * 21 + p < 2 ^ 31 by omega), zx_nI (show 6 * r + l < 2 ^ 31 by omega), eg, es, ep, eh, et]
        refine ⟨zv_in hix (by decide), fun _ => ⟨zv_in hcell (by decide), zv_in hcell (by decide), nI (wbs w k W n r l (wnp w k r l p)), J1, a3, nI (wlf w k W n (r + 1) (wstp (w 1) l (wbs w k W n r l (wnp w k r l p))) (wnp w k r l p)), J2, ?_, zv_in hix (by decide), zv_in hix (by decide), ?_⟩, fun q => absurd z q⟩
        · rw [el, nI_1, show d + 2 * n + 2 + 3 = d + 1 + 2 * n + 4 by omega]
          exact b3
        · rw [pk_mul, nI_add, nI_add, zup_self]
          simp only [upd, if_true]
          rfl
    · have hv : I 49 ((6 * r + l) * 21 + p) = nI (wlf w k W (n + 1) r l p) := by
        rcases hm r l p (by omega) hl hp with q | q
        · exact absurd q z
        · rw [q, show w 0 - r = n + 1 by omega]
      refine ⟨I, fun _ _ => rfl, hm, zCall.of okX3_leastFrom (Nat.le_of_ble_eq_true rfl) ⟨Nat.le_refl _, Nat.le_refl _⟩ (fun G => tX3_leastFrom_0 (d := d + 2 * n + 2) hk ho zR0.w ⟨fun _ => ?_, fun q => absurd lt q⟩)⟩
      rw [ei, zx_nI (show (6 * r + l) * 21 + p < 2 ^ 31 by omega)]
      exact ⟨zv_in hix (by decide), fun q => absurd q z, fun _ => ⟨zv_in hix (by decide), by rw [hv]⟩⟩
theorem zmem_0 {I : Nat → Nat → Int32} {w : zW} {k W : Nat} (hw : winv w) : zmem (zfill I 49 1008 0) w k W := by
  obtain ⟨⟨w0, w1, -⟩, -⟩ := id hw
  intro r l p h1 h2 h3
  left
  simp only [zfill]
  rw [if_pos ⟨trivial, by omega⟩]
theorem kX3_least {d o k W l : Nat} {w : zW} {I : Nat → Nat → Int32} (ho : zhl o) (hw : winv w) (hk : k < 5) (hW : W ≤ 20) (h : hr (zat I o) w) (hl : l < w 1) : ∃ J, z49 I J ∧ zCall (d + 21) mX3_least [.ref 48, .ref o, .ref (38 + k), .int (nI W), .int (nI l)] (zh b I L) (some (.int (nI (wlf w k W (w 0) 0 l 0))), zh b J L) := by
  have ho44 : o + 8 < 44 := by rcases ho with rfl | rfl | rfl | rfl <;> omega
  have w0 := hw.1.1
  have f1 : z49 I (zfill I 49 1008 0) := fun i hi => zfill_ne hi
  obtain ⟨J, a1, a2, a3⟩ := kX3_leastFrom (b := b) (L := L) ho hw hk hW (w 0) (d + 2 * (8 - w 0)) 0 (Nat.add_zero _) (zfill I 49 1008 0) l 0 (f1.hr ho44 h) (zmem_0 hw) hl (by decide)
  rw [show d + 2 * (8 - w 0) + 2 * w 0 + 4 = d + 20 by omega] at a3
  exact ⟨J, f1.trans a1, zCall.of okX3_least (Nat.le_of_ble_eq_true rfl) ⟨Nat.le_refl _, Nat.le_refl _⟩ (fun G => tX3_least_0 (d := d + 16) ho zR0.w ⟨_, kfill rfl (by decide) (by decide) 0, _, _, a3, rfl⟩)⟩
end GUIDE
/-- the guided way -/
def wgd (w : zW) (k W l : Nat) : Nat → Nat × Nat
  | 0 => (l, 0)
  | r + 1 => (wstp (w 1) (wgd w k W l r).1 (wbs w k W (w 0 - (r + 1)) r (wgd w k W l r).1 (wnp w k r (wgd w k W l r).1 (wgd w k W l r).2)), wnp w k r (wgd w k W l r).1 (wgd w k W l r).2)
def wgs (w : zW) (k W l r : Nat) : Nat := wbs w k W (w 0 - (r + 1)) r (wgd w k W l r).1 (wnp w k r (wgd w k W l r).1 (wgd w k W l r).2)
theorem wgd_lt {w : zW} {k W l : Nat} (hl : l < w 1) : ∀ r, (wgd w k W l r).1 < w 1 ∧ (wgd w k W l r).2 ≤ 20 := by
  intro r
  induction r with
  | zero => exact ⟨hl, Nat.zero_le _⟩
  | succ r ih => exact ⟨wstp_lt ih.1, wnp_le⟩
theorem wgs_fb {w : zW} {k W l : Nat} : ∀ r, r ≤ w 0 → wfb w k W (w 0) 0 l 0 % 3 ^ (w 0 - r) = wfb w k W (w 0 - r) r (wgd w k W l r).1 (wgd w k W l r).2 := by
  intro r
  induction r with
  | zero => intro _; rw [Nat.sub_zero, Nat.mod_eq_of_lt (wfb_lt _ _ _ _)]; rfl
  | succ r ih =>
    intro hr
    have h := ih (by omega)
    have e : w 0 - r = (w 0 - (r + 1)) + 1 := by omega
    rw [e] at h
    rw [← mod3, h, wfb_mod]
    rfl
theorem wgs_dig {w : zW} {k W l r : Nat} (hr : r < w 0) : wfb w k W (w 0) 0 l 0 / 3 ^ (w 0 - 1 - r) % 3 = wgs w k W l r := by
  have h := wgs_fb (w := w) (k := k) (W := W) (l := l) r (by omega)
  have e : w 0 - r = (w 0 - 1 - r) + 1 := by omega
  rw [e] at h
  rw [← dig3, h, wfb_div]
  unfold wgs
  rw [show w 0 - (r + 1) = w 0 - 1 - r by omega]
theorem kX3_stepIn {b d o k W l x : Nat} {w : zW} {I : Nat → Nat → Int32} {L : Nat → Nat → Int64} (ho : zhl o) (hw : winv w) (hk : k < 5) (hW : W ≤ 20) (h : hr (zat I o) w) (hl : l < w 1) (hx : x < w 0) : ∃ J, z49 I J ∧ zCall (d + 22) mX3_stepIn [.ref 48, .ref o, .ref (38 + k), .int (nI W), .int (nI l), .int (nI x)] (zh b I L) (some (.int (nI (wgs w k W l x))), zh b J L) := by
  obtain ⟨⟨w0, w1, w2, w3, w4⟩, sl, gr, -⟩ := id hw
  have ho44 : o + 8 < 44 := by rcases ho with rfl | rfl | rfl | rfl <;> omega
  have f1 : z49 I (zfill I 49 1008 0) := fun i hi => zfill_ne hi
  have key := z_for (n := x + 1) (P := fun r => ∀ J s, z49 I J → zmem J w k W → (∀ r', r = r' + 1 → s = nI (wgs w k W l r')) → ∃ J', z49 I J' ∧ ∀ G, zA G (d + 22) mX3_stepIn 21 [some (.ref 48), some (.ref o), some (.ref (38 + k)), some (.int (nI W)), some (.int (nI l)), some (.int (nI x)), some (.int (nI (wgd w k W l r).1)), some (.int (nI (wgd w k W l r).2)), some (.int s), some (.int (nI r))] [] (zh b J L) (some (.int (nI (wgs w k W l x))), zh b J' L)) ?_ ?_ 0 (Nat.zero_le _)
  · obtain ⟨J', h1, h2⟩ := key (zfill I 49 1008 0) 0 f1 (zmem_0 hw) (fun r' hr' => absurd hr' (by omega))
    exact ⟨J', h1, zCall.of okX3_stepIn (Nat.le_of_ble_eq_true rfl) ⟨Nat.le_refl _, Nat.le_refl _⟩ (fun G => tX3_stepIn_0 (d := d + 18) ho zR0.w ⟨_, kfill rfl (by decide) (by decide) 0, h2 G⟩)⟩
  · intro J s hJ hm hs
    exact ⟨J, hJ, fun G => tX3_stepIn_21 (d := d + 18) hk ho zR0.w ⟨fun _ => by rw [hs x rfl], fun q => absurd (nI_lt (by omega) (by omega)) q⟩⟩
  · intro r hr ih J s hJ hm _
    obtain ⟨gl, gp⟩ := wgd_lt (k := k) (W := W) hl r
    have hh := hJ.hr ho44 h
    have e0 : J o 0 = nI (w 0) := hh.1.1
    have hcell : 6 * r + (wgd w k W l r).1 < 48 := by omega
    have eg : J (o + 2) (6 * r + (wgd w k W l r).1) = nI (w (53 + (6 * r + (wgd w k W l r).1))) := hh.2.2.1 _ hcell
    have es : J (o + 1) (6 * r + (wgd w k W l r).1) = nI (w (5 + (6 * r + (wgd w k W l r).1))) := hh.2.1 _ hcell
    have g3 := gr _ hcell
    have s9 := sl _ hcell
    have hx' := wnp_le (w := w) (k := k) (r := r) (l := (wgd w k W l r).1) (p := (wgd w k W l r).2)
    have ep : zpw k (nI (wgd w k W l r).2) (nI (w (5 + (6 * r + (wgd w k W l r).1)))) (nI (w (53 + (6 * r + (wgd w k W l r).1)))) (nI r) = nI (wnp w k r (wgd w k W l r).1 (wgd w k W l r).2) := by
      rw [zpw_nat hk (by omega) (by omega) (by omega) (by omega)]; rfl
    obtain ⟨J1, a1, a2, a3⟩ := kX3_bestStep (d := d + 20) (b := b) (L := L) (n := w 0 - (r + 1)) (r := r) ho hw hW (by omega) gl hx' (fun I l h hm hl => by
      have := kX3_leastFrom (b := b) (L := L) ho hw hk hW (w 0 - (r + 1)) (d + (16 - 2 * (w 0 - (r + 1)))) (r + 1) (by omega) I l _ h hm hl hx'
      rw [show d + (16 - 2 * (w 0 - (r + 1))) + 2 * (w 0 - (r + 1)) + 4 = d + 20 by omega] at this
      exact this) hh hm
    have el : zlb (J1 o 1) (nI (wgd w k W l r).1) (nI (wgs w k W l r)) = nI (wgd w k W l (r + 1)).1 := by
      have st : wgs w k W l r < 3 := by unfold wgs wbs; exact wb3_lt _
      rw [show J1 o 1 = nI (w 1) from (a1.hr ho44 hh).1.2.1]
      exact zlb_nat (by omega) (by omega) (by omega) (by omega)
    obtain ⟨J', h1, h2⟩ := ih J1 (nI (wgs w k W l r)) (hJ.trans a1) a2 (fun r' hr' => by rw [show r' = r by omega])
    refine ⟨J', h1, fun G => tX3_stepIn_21 (d := d + 18) hk ho zR0.w ⟨fun q => absurd ((nI_ltI (by omega) (by omega)).mp q) (by omega), fun _ => ⟨fun q => absurd q (by rw [e0]; exact nI_ge (by omega) (by omega)), fun _ => ?_⟩⟩⟩
    rw [zcellC, zx_nI (by omega), eg, es, ep]
    refine ⟨zv_in hcell (by decide), zv_in hcell (by decide), nI (wgs w k W l r), J1, a3, ?_⟩
    rw [el, nI_1]
    exact h2 G
section LAY
variable {d b : Nat} {I : Nat → Nat → Int32} {L : Nat → Nat → Int64}
theorem kX12_lay {i q : Nat} {w : zW} (hw : winv w) (hi : i < w 2) (hq : q < 2 ^ 31) (h : ∀ k, k < 463 → ¬ (119 + 8 * i ≤ k ∧ k < 119 + 8 * i + w 0) → I 57 k = nI (w k)) : ∃ J, (∀ a, a ≠ 57 → J a = I a) ∧ (∀ k, k < 463 → J 57 k = nI (wln w i q k)) ∧ zCall d mX12_lay [.ref 56, .int (nI i), .int (nI q)] (zh b I L) (none, zh b J L) := by
  obtain ⟨⟨w0, w1, w2, w3, w4⟩, -⟩ := id hw
  have loop : ∀ m, m ≤ w 0 → ∀ J, (∀ a, a ≠ 57 → J a = I a) → (∀ k, k < 463 → ¬ (119 + 8 * i ≤ k ∧ k < 119 + 8 * i + m) → J 57 k = nI (wln w i q k)) → ∃ J', (∀ a, a ≠ 57 → J' a = I a) ∧ (∀ k, k < 463 → J' 57 k = nI (wln w i q k)) ∧ ∀ G, zA G d mX12_lay 12 [some (.ref 56), some (.int (nI i)), some (.int (nI q)), some (.int (nI (q / 3 ^ (w 0 - m)))), some (.int (nI m + (-1)))] [] (zh b J L) (none, zh b J' L) := by
    intro m
    induction m with
    | zero =>
      intro _ J h1 h2
      exact ⟨J, h1, fun k hk => h2 k hk (by omega), fun G => tX12_lay_12 ⟨fun _ => rfl, fun y => absurd (by decide) y⟩⟩
    | succ m ih =>
      intro hm J h1 h2
      have hdl : q / 3 ^ (w 0 - (m + 1)) ≤ q := Nat.div_le_self _ _
      obtain ⟨J', g1, g2, g3⟩ := ih (by omega) (zup J 57 (119 + 8 * i + m) (nI (q / 3 ^ (w 0 - (m + 1)) % 3))) (fun a ha => by rw [zup_ne ha]; exact h1 a ha) (fun k hk hn => by
        rw [zup_self]
        simp only [upd]
        by_cases z : k = 119 + 8 * i + m
        · subst z
          rw [if_pos rfl, wln_in (by omega), show w 0 - 1 - m = w 0 - (m + 1) by omega]
        · rw [if_neg z]; exact h2 k hk (by omega))
      refine ⟨J', g1, g2, fun G => ?_⟩
      rw [nIm1]
      refine tX12_lay_12 ⟨fun y => absurd y (nIneg (by omega)), fun _ => ?_⟩
      have e3 : nI (q / 3 ^ (w 0 - (m + 1))) / 3 = nI (q / 3 ^ (w 0 - m)) := by
        rw [show (3 : Int32) = nI 3 from rfl, pk_div (by omega) (by decide) (by decide), Nat.div_div_eq_div_mul, ← Nat.pow_succ, show (w 0 - (m + 1)).succ = w 0 - m by omega]
      have r3 : zrem (nI (q / 3 ^ (w 0 - (m + 1)))) 3 = nI (q / 3 ^ (w 0 - (m + 1)) % 3) := zrem_n (a := 3) (by omega) (by decide) (by decide)
      rw [zlineR, zx_nI (by omega), e3, r3]
      exact ⟨zv_in (by omega) (by decide), g3 G⟩
  obtain ⟨J', g1, g2, g3⟩ := loop (w 0) (Nat.le_refl _) I (fun _ _ => rfl) (fun k hk hn => by rw [wln_ne hn]; exact h k hk hn)
  rw [Nat.sub_self, Nat.pow_zero, Nat.div_one] at g3
  refine ⟨J', g1, g2, zCall.of okX12_lay (Nat.le_of_ble_eq_true rfl) ⟨Nat.le_refl _, Nat.le_refl _⟩ (fun G => tX12_lay_0 ?_)⟩
  rw [h 0 (by decide) (by omega), nIm1']
  exact g3 G
end LAY
/-- the cheapest among the first n lines -/
def wfs (f : Nat → Nat) (n : Nat) (x y : Int32) : Prop := (n = 0 ∧ x = 0 ∧ y = -1) ∨ (∃ m, m < n ∧ x = nI m ∧ y = nI (f m) ∧ ∀ q, q < n → f m ≤ f q ∧ (q < m → f m < f q))
theorem p_best (x1 x2 x3 : Int32) : zPair mX11_best mX12_best [.int x1, .int x2, .int x3] := by
  refine zPair.of fun σ hi => ?_
  obtain ⟨⟨hw0, hw1, hw2, hw3, hw4⟩, -⟩ := id hi.1
  have f1 : ∀ {b : Nat} {I : Nat → Nat → Int32} {L : Nat → Nat → Int64}, zCl b I L σ → ((0 ≤ x1 ∧ x1 ≤ I b 2 - 1) ↔ zof x1 (σ.1 2)) ∧ ((0 ≤ x3 ∧ x3 ≤ I b 0 - 1) ↔ zof x3 (σ.1 0)) := by
    intro b I L hc
    rw [show I b 0 = nI (σ.1 0) from hc.2.1.1.1, show I b 2 = nI (σ.1 2) from hc.2.1.1.2.2.1, zof_c (by omega), zof_c (by omega)]
    exact ⟨Iff.rfl, Iff.rfl⟩
  have f2 : ∀ {I : Nat → Nat → Int32} {L : Nat → Nat → Int64}, zRf I L σ → ((0 ≤ x1.toInt64 ∧ x1.toInt64 ≤ (I 57 2 - 1).toInt64) ↔ zof x1 (σ.1 2)) ∧ ((0 ≤ x3.toInt64 ∧ x3.toInt64 ≤ (I 57 0 - 1).toInt64) ↔ zof x3 (σ.1 0)) := by
    intro I L hc
    rw [hc.1 0 (by decide), hc.1 2 (by decide), zof_r (by omega), zof_r (by omega)]
    exact ⟨Iff.rfl, Iff.rfl⟩
  have e3 : (0 ≤ x2 ∧ x2 ≤ 20) ↔ zin x2 0 20 := zin_c (lo := 0) (hi := 20) (by decide) (by decide)
  have r3 : (0 ≤ x2.toInt64 ∧ x2.toInt64 ≤ 20) ↔ zin x2 0 20 := zin_r (lo := 0) (hi := 20) (by decide) (by decide)
  by_cases hv : zof x1 (σ.1 2) ∧ zin x2 0 20 ∧ (x3 = -1 ∨ zof x3 (σ.1 0))
  · obtain ⟨i, hil, hxi⟩ := hv.1.nat (by omega)
    obtain ⟨W, -, hW, hxW⟩ := hv.2.1.nat (by decide)
    subst hxi hxW
    have hk4 := (hi.1.2.2.2.1 i hil).1
    have hl1 := (hi.1.2.2.2.1 i hil).2.1
    have a3 : 3 ^ σ.1 0 ≤ 6561 := Nat.pow_le_pow_right (n := 3) (by decide) hw0.2
    have fbl := wfb_lt (w := σ.1) (k := σ.1 (101 + i)) (W := W) (σ.1 0) 0 (σ.1 (107 + i)) 0
    -- the answer, and the reference's run up to it
    have refr : ∀ (ans : Int32), (x3 = -1 → ans = nI (wlf σ.1 (σ.1 (101 + i)) W (σ.1 0) 0 (σ.1 (107 + i)) 0)) → (∀ r, r < σ.1 0 → x3 = nI r → ans = nI (wgs σ.1 (σ.1 (101 + i)) W (σ.1 (107 + i)) r)) → zSR mX12_best [.int (nI i), .int (nI W), .int x3] σ (.int ans) σ := by
      intro ans an1 an2 d b I L hc
      have own : ∀ k, k < 463 → I 57 k = nI (σ.1 k) := hc.1
      have hline : ∀ r, r < σ.1 0 → σ.1 (119 + 8 * i + r) ≤ 2 := fun r hr => (hi.1.2.2.2.1 i hil).2.2.2 r (by omega)
      have wwl := wws_lt (w := σ.1) (i := i) (σ.1 0) hline
      have key := z_for (n := 3 ^ σ.1 0) (P := fun n => ∀ J x y, (∀ a, (a ≠ 57 ∧ (a < 63 ∨ 73 < a)) → J a = I a) → (∀ k, k < 463 → ¬ (119 + 8 * i ≤ k ∧ k < 119 + 8 * i + σ.1 0) → J 57 k = nI (σ.1 k)) → wfs (wcn σ.1 (σ.1 (101 + i)) W (σ.1 0) 0 (σ.1 (107 + i)) 0) n x y → ∃ J', zapd I J' σ.1 ∧ ∀ G, zA G (d + 40) mX12_best 103 [some (.ref 56), some (.int (nI i)), some (.int (nI W)), some (.int x3), some (.int (nI (wws σ.1 i (σ.1 0)))), some (.int (nI (3 ^ σ.1 0))), some (.int x), some (.int y), some (.int (nI n))] [] (zh b J L) (some (.int ans), zh b J' L)) ?_ ?_ 0 (Nat.zero_le _)
      · obtain ⟨J', h1, h2⟩ := key I 0 (-1) (fun _ _ => rfl) (fun k hk _ => own k hk) (Or.inl ⟨rfl, rfl, rfl⟩)
        have first : ∀ G, zA G (d + 40) mX12_best 49 [some (.ref 56), some (.int (nI i)), some (.int (nI W)), some (.int x3), some (.int 0), some (.int 1), some (.int 0), none, none] [] (zh b I L) (some (.int ans), zh b J' L) := by
          intro G
          refine z_for (n := σ.1 0) (P := fun r => zA G (d + 40) mX12_best 49 [some (.ref 56), some (.int (nI i)), some (.int (nI W)), some (.int x3), some (.int (nI (wws σ.1 i r))), some (.int (nI (3 ^ r))), some (.int (nI r)), none, none] [] (zh b I L) _) ?_ ?_ 0 (Nat.zero_le _)
          · exact tX12_best_49 (d := d + 36) ⟨fun _ => h2 G, fun q => absurd (by rw [own 0 (by decide)]; exact nI_le (Nat.le_refl _) (by omega)) q⟩
          · intro r hr ih
            refine tX12_best_49 (d := d + 36) ⟨fun q => absurd q (by rw [own 0 (by decide)]; exact nI_ge hr (by omega)), fun _ => ?_⟩
            rw [zlineR, zx_nI (by omega), own _ (by omega), show (3 : Int32) = nI 3 from rfl, pk_mul, pk_mul, nI_add, ← Nat.pow_succ, nI_1]
            exact ⟨zv_in (by omega) (by decide), ih⟩
        exact ⟨J', L, zCall.of okX12_best (Nat.le_of_ble_eq_true rfl) ⟨Nat.le_refl _, Nat.le_refl _⟩ (fun G => tX12_best_0 (d := d + 36) zR0.w ⟨fun q => absurd ((f2 hc).1.mpr hv.1) q, fun _ => ⟨fun q => absurd (r3.mpr hv.2.1) q, fun _ => ⟨fun _ => first G, fun q => ⟨fun _ => first G, fun q2 => absurd ((f2 hc).2.mpr (hv.2.2.resolve_left q)) q2⟩⟩⟩⟩), hc.apd h1, h1.lo, zloL.rf⟩
      · intro J x y hJ hn hfs
        rcases hfs with ⟨hz, -, -⟩ | ⟨m, hm, rfl, rfl, hmin⟩
        · exact absurd hz (by have := p3 (σ.1 0); omega)
        · have hcm := wcn_ge (w := σ.1) (k := σ.1 (101 + i)) (W := W) (σ.1 0) 0 (σ.1 (107 + i)) 0 m hm
          have hfb := hmin _ fbl
          rw [wcn_fb] at hfb
          have hc1 : wcn σ.1 (σ.1 (101 + i)) W (σ.1 0) 0 (σ.1 (107 + i)) 0 m = wlf σ.1 (σ.1 (101 + i)) W (σ.1 0) 0 (σ.1 (107 + i)) 0 := by omega
          have hm1 : m = wfb σ.1 (σ.1 (101 + i)) W (σ.1 0) 0 (σ.1 (107 + i)) 0 := by
            by_cases u : m < wfb σ.1 (σ.1 (101 + i)) W (σ.1 0) 0 (σ.1 (107 + i)) 0
            · have := hcm.2 u; omega
            · by_cases v : wfb σ.1 (σ.1 (101 + i)) W (σ.1 0) 0 (σ.1 (107 + i)) 0 < m
              · have := hfb.2 v; omega
              · omega
          obtain ⟨J1, a1, a2, a4⟩ := kX12_lay (d := d + 39) (b := b) (L := L) (q := m) hi.1 hil (by omega) hn
          obtain ⟨J2, b1, b2, b4⟩ := kX12_lay (d := d + 39) (b := b) (L := L) (I := J1) (q := wws σ.1 i (σ.1 0)) hi.1 hil (by omega) (fun k hk hnn => by rw [a2 k hk, wln_ne hnn])
          rw [wln_own hi.1 hil] at b2
          refine ⟨J2, ⟨fun a ha => by rw [b1 a ha.1, a1 a ha.1]; exact hJ a ha, b2⟩, fun G => tX12_best_103 (d := d + 36) zR0.w ⟨fun _ => ⟨J1, a4, fun q => ?_, fun q => ⟨J2, b4, ?_⟩⟩, fun q => absurd (nI_le (Nat.le_refl _) (by omega)) q⟩⟩
          · obtain ⟨r, hr, hxr⟩ := (hv.2.2.resolve_left q).nat (by omega)
            rw [an2 r hr hxr, hxr, zlineR, zx_nI (by omega), a2 _ (by omega), wln_in hr, hm1, wgs_dig hr]
            exact ⟨zv_in (by omega) (by decide), J2, b4, rfl⟩
          · rw [an1 q, hc1]
      · intro n hn3 ih J x y hJ hnn hfs
        obtain ⟨J1, a1, a2, a4⟩ := kX12_lay (d := d + 39) (b := b) (L := L) (q := n) hi.1 hil (by omega) hnn
        have hw' := winv_ln (q := n) hi.1 hil
        have lo : ∀ j, j < 119 → wln σ.1 i n j = σ.1 j := fun j hj => wln_ne (by omega)
        have l2 : i < wln σ.1 i n 2 := by rw [lo 2 (by omega)]; exact hil
        have kw := kX12_walks (d := d + 36) (b := b) (L := L) hw' a2 l2
        have kc := kX12_comesTo (d := d + 38) (b := b) (L := L) (i := i) (t := 9) (W := W) hw' a2
        rw [wln_cost0 hi.1 hil hn3] at kc
        have bd : wcn σ.1 (σ.1 (101 + i)) W (σ.1 0) 0 (σ.1 (107 + i)) 0 n ≤ 1240 := by
          rw [← wln_cost0 hi.1 hil hn3]
          exact wcost_le (by rw [lo 0 (by omega)]; exact hw0.2) hW
        have hJ2 : ∀ a, (a ≠ 57 ∧ (a < 63 ∨ 73 < a)) → zwk J1 (wln σ.1 i n) i 9 (wln σ.1 i n 0) a = I a := fun a ha => by rw [zwk_ne (by omega), a1 a ha.1]; exact hJ a ha
        have hn2 : ∀ k, k < 463 → ¬ (119 + 8 * i ≤ k ∧ k < 119 + 8 * i + σ.1 0) → zwk J1 (wln σ.1 i n) i 9 (wln σ.1 i n 0) 57 k = nI (σ.1 k) := fun k hk hz => by rw [zwk_ne (by omega), a2 k hk, wln_ne hz]
        have lt : ¬ nI (3 ^ σ.1 0) ≤ nI n := nI_ge hn3 (by omega)
        rcases hfs with ⟨hz, rfl, rfl⟩ | ⟨m, hm, rfl, rfl, hmin⟩
        · obtain ⟨J', h1, h2⟩ := ih _ (nI n) (nI (wcn σ.1 (σ.1 (101 + i)) W (σ.1 0) 0 (σ.1 (107 + i)) 0 n)) hJ2 hn2 (Or.inr ⟨n, by omega, rfl, rfl, fun q hq => by
            have : q = n := by omega
            subst this
            exact ⟨Nat.le_refl _, fun z => absurd z (Nat.lt_irrefl q)⟩⟩)
          refine ⟨J', h1, fun G => tX12_best_103 (d := d + 36) zR0.w ⟨fun q => absurd q lt, fun _ => ⟨J1, a4, _, kw, fun _ => ⟨_, kc, ?_⟩, fun q => absurd (by decide) q⟩⟩⟩
          rw [nI_1]; exact h2 G
        · have hm1 := hmin m (by omega)
          have bm : wcn σ.1 (σ.1 (101 + i)) W (σ.1 0) 0 (σ.1 (107 + i)) 0 m ≤ 1240 := by
            rw [← wln_cost0 hi.1 hil (show m < 3 ^ σ.1 0 by omega)]
            exact wcost_le (by rw [wln_ne (by omega)]; exact hw0.2) hW
          have c : nI (wcn σ.1 (σ.1 (101 + i)) W (σ.1 0) 0 (σ.1 (107 + i)) 0 m) ≤ nI (wcn σ.1 (σ.1 (101 + i)) W (σ.1 0) 0 (σ.1 (107 + i)) 0 n) ↔ wcn σ.1 (σ.1 (101 + i)) W (σ.1 0) 0 (σ.1 (107 + i)) 0 m ≤ wcn σ.1 (σ.1 (101 + i)) W (σ.1 0) 0 (σ.1 (107 + i)) 0 n := nI_leI (by omega) (by omega)
          by_cases z : wcn σ.1 (σ.1 (101 + i)) W (σ.1 0) 0 (σ.1 (107 + i)) 0 m ≤ wcn σ.1 (σ.1 (101 + i)) W (σ.1 0) 0 (σ.1 (107 + i)) 0 n
          · obtain ⟨J', h1, h2⟩ := ih _ (nI m) (nI (wcn σ.1 (σ.1 (101 + i)) W (σ.1 0) 0 (σ.1 (107 + i)) 0 m)) hJ2 hn2 (Or.inr ⟨m, by omega, rfl, rfl, fun q hq => by
              by_cases u : q = n
              · subst u; exact ⟨z, fun v => by omega⟩
              · exact hmin q (by omega)⟩)
            refine ⟨J', h1, fun G => tX12_best_103 (d := d + 36) zR0.w ⟨fun q => absurd q lt, fun _ => ⟨J1, a4, _, kw, fun q => absurd q (nIneg (by omega)), fun _ => ⟨_, kc, fun _ => ?_, fun q => absurd (c.mpr z) q⟩⟩⟩⟩
            rw [nI_1]; exact h2 G
          · obtain ⟨J', h1, h2⟩ := ih _ (nI n) (nI (wcn σ.1 (σ.1 (101 + i)) W (σ.1 0) 0 (σ.1 (107 + i)) 0 n)) hJ2 hn2 (Or.inr ⟨n, by omega, rfl, rfl, fun q hq => by
              by_cases u : q = n
              · subst u; exact ⟨Nat.le_refl _, fun v => absurd v (Nat.lt_irrefl q)⟩
              · have := (hmin q (by omega)).1
                exact ⟨by omega, fun _ => by omega⟩⟩)
            refine ⟨J', h1, fun G => tX12_best_103 (d := d + 36) zR0.w ⟨fun q => absurd q lt, fun _ => ⟨J1, a4, _, kw, fun q => absurd q (nIneg (by omega)), fun _ => ⟨_, kc, fun q => absurd (c.mp q) z, fun _ => ⟨_, kc, ?_⟩⟩⟩⟩⟩
            rw [nI_1]; exact h2 G
    have kn : zkn (nI (σ.1 (101 + i))) = σ.1 (101 + i) := zkn_nat (by omega)
    have clI : ∀ {b : Nat} {I J : Nat → Nat → Int32} {L : Nat → Nat → Int64}, zCl b I L σ → z49 I J → zCl b J L σ := fun hc h1 => hc.idle (fun i hi' => h1 i (by omega)) (by rw [h1 53 (by decide)]) (fun k _ => by rw [h1 54 (by decide)])
    rcases hv.2.2 with hx | hx
    · refine ⟨.int (nI (wlf σ.1 (σ.1 (101 + i)) W (σ.1 0) 0 (σ.1 (107 + i)) 0)), σ, fun d b I L hc => ?_, refr _ (fun _ => rfl) (fun r hr hxr => ?_), hi, Or.inl ⟨rfl, _, rfl⟩⟩
      · obtain ⟨J, h1, h2⟩ := kX3_least (d := d + 18) (b := b) (L := L) hc.1.hl hi.1 (show σ.1 (101 + i) < 5 by omega) hW hc.2.1 hl1
        refine ⟨b, J, L, zCall.of okX11_best (Nat.le_of_ble_eq_true rfl) ⟨Nat.le_refl _, Nat.le_refl _⟩ (fun G => tX11_best_0 (d := d + 34) hc.1 zR0.w ⟨fun q => absurd ((f1 hc).1.mpr hv.1) q, fun _ => ⟨fun q => absurd (e3.mpr hv.2.1) q, fun _ => ⟨fun _ => ⟨zv_in (by omega) (by decide), fun q => absurd hx q, fun _ => ⟨zv_in (by omega) (by decide), _, J, ?_, rfl⟩⟩, fun q => absurd hx q⟩⟩⟩), clI hc h1, fun i hi' => h1 i (by omega), zhiL.rf⟩
        rw [zx_nI (by omega), show I (b + 3) i = nI (σ.1 (101 + i)) from (hc.2.1.2.2.2.1 i hil).1, show I (b + 4) i = nI (σ.1 (107 + i)) from (hc.2.1.2.2.2.1 i hil).2.1, kn]
        exact h2
      · exfalso
        rw [hx] at hxr
        have := congrArg Int32.toInt hxr
        rw [nI_toInt (by omega), show (-1 : Int32).toInt = -1 from rfl] at this
        omega
    · obtain ⟨r, hr, hxr⟩ := hx.nat (by omega)
      have hne : ¬ x3 = -1 := fun z => by
        rw [hxr] at z
        have := congrArg Int32.toInt z
        rw [nI_toInt (by omega), show (-1 : Int32).toInt = -1 from rfl] at this
        omega
      refine ⟨.int (nI (wgs σ.1 (σ.1 (101 + i)) W (σ.1 (107 + i)) r)), σ, fun d b I L hc => ?_, refr _ (fun z => absurd z hne) (fun r' hr' hxr' => ?_), hi, Or.inl ⟨rfl, _, rfl⟩⟩
      · obtain ⟨J, h1, h2⟩ := kX3_stepIn (d := d + 17) (b := b) (L := L) hc.1.hl hi.1 (show σ.1 (101 + i) < 5 by omega) hW hc.2.1 hl1 hr
        refine ⟨b, J, L, zCall.of okX11_best (Nat.le_of_ble_eq_true rfl) ⟨Nat.le_refl _, Nat.le_refl _⟩ (fun G => tX11_best_0 (d := d + 34) hc.1 zR0.w ⟨fun q => absurd ((f1 hc).1.mpr hv.1) q, fun _ => ⟨fun q => absurd (e3.mpr hv.2.1) q, fun _ => ⟨fun q => absurd q hne, fun _ => ⟨fun _ => ⟨zv_in (by omega) (by decide), fun _ => ⟨zv_in (by omega) (by decide), _, J, ?_, rfl⟩, fun q => absurd q hne⟩, fun q => absurd ((f1 hc).2.mpr hx) q⟩⟩⟩⟩), clI hc h1, fun i hi' => h1 i (by omega), zhiL.rf⟩
        rw [zx_nI (by omega), show I (b + 3) i = nI (σ.1 (101 + i)) from (hc.2.1.2.2.2.1 i hil).1, show I (b + 4) i = nI (σ.1 (107 + i)) from (hc.2.1.2.2.2.1 i hil).2.1, kn, hxr]
        exact h2
      · rw [hxr] at hxr'
        rw [(nI_eq (by omega) (by omega)).mp hxr']
  · refine ⟨.int (-2), sBad σ, sc_bad fun d b I L hc => ?_, sr_bad fun d b I L hc => ?_, hi, Or.inl ⟨rfl, _, rfl⟩⟩
    · exact zCall.of okX11_best (Nat.le_of_ble_eq_true rfl) ⟨Nat.le_refl _, Nat.le_refl _⟩ (fun G => tX11_best_0 (d := d + 34) hc.1 zR0.w ⟨fun _ => xBad _, fun q1 => ⟨fun _ => xBad _, fun q2 => ⟨fun q3 => absurd ⟨(f1 hc).1.mp q1, e3.mp q2, Or.inl q3⟩ hv, fun _ => ⟨fun q3 => absurd ⟨(f1 hc).1.mp q1, e3.mp q2, Or.inr ((f1 hc).2.mp q3)⟩ hv, fun _ => xBad _⟩⟩⟩⟩)
    · exact zCall.of okX12_best (Nat.le_of_ble_eq_true rfl) ⟨Nat.le_refl _, Nat.le_refl _⟩ (fun G => tX12_best_0 (d := d + 36) zR0.w ⟨fun _ => yBad, fun q1 => ⟨fun _ => yBad, fun q2 => ⟨fun q3 => absurd ⟨(f2 hc).1.mp q1, r3.mp q2, Or.inl q3⟩ hv, fun _ => ⟨fun q3 => absurd ⟨(f2 hc).1.mp q1, r3.mp q2, Or.inr ((f2 hc).2.mp q3)⟩ hv, fun _ => yBad⟩⟩⟩⟩)
