/-! fractions; pair: feet -/
theorem nI_L {n : Nat} (h : n < 2 ^ 31) : (nI n).toInt64 = lN n := by
  apply Int64.toInt_inj.mp
  rw [Int32.toInt_toInt64, nI_toInt h, lN_toInt h]
theorem lN_int {n : Nat} (h : n < 2 ^ 63) : (lN n).toInt = (n : Int) := lg_ofNat_toInt h
theorem lN_div {a c : Nat} (ha : a < 2 ^ 63) (hc : c < 2 ^ 63) (h0 : 0 < c) : lN a / lN c = lN (a / c) := by
  apply Int64.toInt_inj.mp
  have h1 : a / c ≤ a := Nat.div_le_self a c
  rw [lg_ldiv_nonneg (by rw [lN_int ha]; omega) (by rw [lN_int hc]; omega), lN_int ha, lN_int hc, lN_int (by omega)]
  rfl
theorem lN_rem {a c : Nat} (ha : a < 2 ^ 63) (hc : c < 2 ^ 63) (h0 : 0 < c) : zremL (lN a) (lN c) = lN (a % c) := by
  unfold zremL
  rw [lN_div ha hc h0, lN_mul, lN_sub (Nat.div_mul_le_self a c)]
  congr 1
  have := Nat.div_add_mod a c
  rw [Nat.mul_comm] at this
  omega
theorem lN_z {a : Nat} (ha : a < 2 ^ 63) : lN a = 0 ↔ a = 0 := by
  constructor
  · intro h
    have := congrArg Int64.toInt h
    rw [lN_int ha, show (0 : Int64).toInt = 0 from rfl] at this
    omega
  · rintro rfl; rfl
theorem lcz {a : Nat} (ha : a < 2 ^ 63) : lg_cmp (lN a) 0 = 0 ↔ a = 0 := (lg_cmp_eq _ _).trans (lN_z ha)
theorem zgcd_s {x y : Nat} (h : y ≠ 0) : Nat.gcd y (x % y) = Nat.gcd x y := by
  rw [Nat.gcd_comm x y, Nat.gcd_rec y x, Nat.gcd_comm]
section FRAC
variable {d b : Nat} {I : Nat → Nat → Int32} {L : Nat → Nat → Int64}
theorem kX11_commonDivisor {x y : Nat} (hx : x < 2 ^ 44) (hy : y < 2 ^ 44) (hy0 : 0 < y) : zCall d mX11_commonDivisor [.long (lN x), .long (lN y)] (zh b I L) (some (.long (lN (Nat.gcd x y))), zh b I L) := by
  refine zCall.of okX11_commonDivisor (Nat.le_of_ble_eq_true rfl) ⟨Nat.le_refl _, Nat.le_refl _⟩ (fun G => tX11_commonDivisor_0 ?_)
  have key := z_for (n := 100) (P := fun k => ∀ u v, u < 2 ^ 44 → v ≤ u → u * v < 2 ^ (100 - k) → zA G d mX11_commonDivisor 9 [some (.long (lN x)), none, some (.long (lN y)), none, some (.long (lN u)), none, some (.long (lN v)), none, some (.int (nI k)), none, none] [] (zh b I L) (some (.long (lN (Nat.gcd u v))), zh b I L)) ?_ ?_
  · have d1 : ¬ (100 : Int32) ≤ nI 0 := by decide
    refine tX11_commonDivisor_9 ⟨fun q => absurd q d1, fun _ => ⟨fun q => absurd ((lcz (by omega)).mp q) (by omega), fun _ => ⟨fun z => absurd ((lN_z (by omega)).mp z) (by omega), ?_⟩⟩⟩
    rw [lN_rem (by omega) (by omega) hy0, ← zgcd_s (x := x) (y := y) (by omega)]
    refine key 1 (by decide) y (x % y) hy (Nat.le_of_lt (Nat.mod_lt x hy0)) ?_
    have h1 : x % y < y := Nat.mod_lt x hy0
    have h2 : y * (x % y) ≤ 2 ^ 44 * 2 ^ 44 := Nat.mul_le_mul (by omega) (by omega)
    exact Nat.lt_of_le_of_lt h2 (by decide)
  · intro u v hu hv hp
    have hz : u * v = 0 := by
      have : u * v < 1 := hp
      omega
    have hv0 : v = 0 := by
      rcases Nat.mul_eq_zero.mp hz with z | z
      · omega
      · exact z
    subst hv0
    exact tX11_commonDivisor_9 ⟨fun _ => by rw [Nat.gcd_zero_right], fun q => absurd (by decide) q⟩
  · intro k hk ih u v hu hv hp
    refine tX11_commonDivisor_9 ⟨fun q => absurd q (nI_ge (b := 100) hk (by decide)), fun _ => ⟨fun q => ?_, fun q => ?_⟩⟩
    · rw [(lcz (by omega)).mp q, Nat.gcd_zero_right]
    · have hv0 : v ≠ 0 := fun z => q ((lcz (by omega)).mpr z)
      refine ⟨fun z => hv0 ((lN_z (by omega)).mp z), ?_⟩
      have hm : u % v < v := Nat.mod_lt u (by omega)
      rw [lN_rem (by omega) (by omega) (by omega), nI_1, ← zgcd_s hv0]
      refine ih v (u % v) (by omega) (by omega) ?_
      have h1 : 2 * (u % v) ≤ u := by
        have h2 := Nat.div_add_mod u v
        have h3 : 1 ≤ u / v := (Nat.one_le_div_iff (by omega)).mpr hv
        have h4 : v * 1 ≤ v * (u / v) := Nat.mul_le_mul_left v h3
        omega
      have h2 : v * (2 * (u % v)) ≤ v * u := Nat.mul_le_mul_left v h1
      have e : 100 - k = (100 - (k + 1)) + 1 := by omega
      rw [e, Nat.pow_succ] at hp
      rw [Nat.mul_comm v u, show v * (2 * (u % v)) = 2 * (v * (u % v)) by rw [Nat.mul_left_comm]] at h2
      omega
theorem kX11_setFraction {x y : Nat} (hx : x < 2 ^ 44) (hy : y < 2 ^ 44) (hy0 : 0 < y) : zCall (d + 1) mX11_setFraction [.ref 0, .long (lN x), .long (lN y)] (zh b I L) (none, zh b I (zupL (zupL L 0 10 (lN (x / Nat.gcd x y))) 0 11 (lN (y / Nat.gcd x y)))) := by
  have hg : 0 < Nat.gcd x y := Nat.gcd_pos_of_pos_right x hy0
  have hg2 : Nat.gcd x y ≤ y := Nat.le_of_dvd hy0 (Nat.gcd_dvd_right x y)
  refine zCall.of okX11_setFraction (Nat.le_of_ble_eq_true rfl) ⟨Nat.le_refl _, Nat.le_refl _⟩ (fun G => tX11_setFraction_0 zR0.w ⟨_, kX11_commonDivisor hx hy hy0, fun q => ?_, fun q => ?_⟩)
  · rw [lg_cmp_le, Int64.le_iff_toInt_le, lN_int (by omega), show (0 : Int64).toInt = 0 from rfl] at q
    omega
  · rw [lN_div (by omega) (by omega) hg, lN_div (by omega) (by omega) hg]
    exact ⟨fun z => absurd ((lN_z (by omega)).mp z) (by omega), fun z => absurd ((lN_z (by omega)).mp z) (by omega), rfl⟩
theorem kX12_fraction {x y : Nat} (hx : x < 2 ^ 44) (hy : y < 2 ^ 44) (hy0 : 0 < y) : zCall d mX12_fraction [.ref 56, .long (lN x), .long (lN y)] (zh b I L) (some (.int 1), zh b I (zupL (zupL L 56 6 (lN (x / Nat.gcd x y))) 56 7 (lN (y / Nat.gcd x y)))) := by
  have hg : 0 < Nat.gcd x y := Nat.gcd_pos_of_pos_right x hy0
  have hg2 : Nat.gcd x y ≤ y := Nat.le_of_dvd hy0 (Nat.gcd_dvd_right x y)
  refine zCall.of okX12_fraction (Nat.le_of_ble_eq_true rfl) ⟨Nat.le_refl _, Nat.le_refl _⟩ (fun G => tX12_fraction_0 ?_)
  have key : ∀ n u v, v ≤ n → u < 2 ^ 44 → v < 2 ^ 44 → Nat.gcd u v = Nat.gcd x y → zA G d mX12_fraction 6 [some (.ref 56), some (.long (lN x)), none, some (.long (lN y)), none, some (.long (lN u)), none, some (.long (lN v)), none, none, none] [] (zh b I L) (some (.int 1), zh b I (zupL (zupL L 56 6 (lN (x / Nat.gcd x y))) 56 7 (lN (y / Nat.gcd x y)))) := by
    intro n
    induction n with
    | zero =>
      intro u v hn hu hv hgc
      have : v = 0 := Nat.le_zero.mp hn
      subst this
      rw [Nat.gcd_zero_right] at hgc
      subst hgc
      refine tX12_fraction_6 ⟨fun _ => ?_, fun q => absurd ((lcz (by omega)).mpr rfl) q⟩
      rw [lN_div (by omega) (by omega) hg, lN_div (by omega) (by omega) hg]
      exact ⟨fun z => absurd ((lN_z (by omega)).mp z) (by omega), fun z => absurd ((lN_z (by omega)).mp z) (by omega), rfl⟩
    | succ n ih =>
      intro u v hn hu hv hgc
      refine tX12_fraction_6 ⟨fun q => ?_, fun q => ?_⟩
      · have : v = 0 := (lcz (by omega)).mp q
        subst this
        rw [Nat.gcd_zero_right] at hgc
        subst hgc
        rw [lN_div (by omega) (by omega) hg, lN_div (by omega) (by omega) hg]
        exact ⟨fun z => absurd ((lN_z (by omega)).mp z) (by omega), fun z => absurd ((lN_z (by omega)).mp z) (by omega), rfl⟩
      · have hv0 : v ≠ 0 := fun z => q ((lcz (by omega)).mpr z)
        have hm : u % v < v := Nat.mod_lt u (by omega)
        refine ⟨fun z => hv0 ((lN_z (by omega)).mp z), ?_⟩
        rw [lN_rem (by omega) (by omega) (by omega)]
        exact ih v (u % v) (by omega) hv (by omega) (by rw [zgcd_s hv0]; exact hgc)
  exact key y x y (Nat.le_refl _) hx hy rfl
/-- the fraction set -/
def sFrac (σ : zσ) (x y : Nat) : zσ := (σ.1, σ.2.1, (lN (x / Nat.gcd x y), lN (y / Nat.gcd x y)), σ.2.2.2)
theorem zCl.frac {σ : zσ} {x y : Nat} (h : zCl b I L σ) : zCl b I (zupL (zupL L 0 10 (lN (x / Nat.gcd x y))) 0 11 (lN (y / Nat.gcd x y))) (sFrac σ x y) := by
  obtain ⟨h1, h2, h3, h4, h5, h6, h7⟩ := h
  exact ⟨h1, h2, h3, ⟨by simp [zupL, sFrac], by simp [zupL, sFrac]⟩, h5, h6, h7⟩
theorem zRf.frac {σ : zσ} {x y : Nat} (h : zRf I L σ) : zRf I (zupL (zupL L 56 6 (lN (x / Nat.gcd x y))) 56 7 (lN (y / Nat.gcd x y))) (sFrac σ x y) := by
  obtain ⟨h1, h2, h3, h4, h5, h6⟩ := h
  exact ⟨h1, h2, ⟨by simp [zupL, sFrac], by simp [zupL, sFrac]⟩, h4, h5, h6⟩
end FRAC
def wup (w : zW) (i : Nat) : Nat → Nat
  | 0 => 1
  | r + 1 => wup w i r * (40 - vP w i 9 (r + 1))
theorem wup_le {w : zW} {i : Nat} : ∀ r, wup w i r ≤ 40 ^ r := by
  intro r
  induction r with
  | zero => exact Nat.le_refl _
  | succ r ih => show wup w i r * _ ≤ 40 ^ r * 40; exact Nat.mul_le_mul ih (by omega)
theorem p40 {r : Nat} (h : r ≤ 8) : 40 ^ r < 2 ^ 44 := Nat.lt_of_le_of_lt (Nat.pow_le_pow_right (by decide) h) (by decide)
theorem p_feet (x1 : Int32) : zPair mX11_feet mX12_feet [.int x1] := by
  refine zPair.of fun σ hi => ?_
  obtain ⟨⟨hw0, hw1, hw2, hw3, hw4⟩, -⟩ := id hi.1
  have f1 : ∀ {b : Nat} {I : Nat → Nat → Int32} {L : Nat → Nat → Int64}, zCl b I L σ → ((0 ≤ x1 ∧ x1 ≤ I b 2 - 1) ↔ zof x1 (σ.1 2)) := by
    intro b I L hc
    rw [show I b 2 = nI (σ.1 2) from hc.2.1.1.2.2.1, zof_c (by omega)]
  have f2 : ∀ {I : Nat → Nat → Int32} {L : Nat → Nat → Int64}, zRf I L σ → ((0 ≤ x1.toInt64 ∧ x1.toInt64 ≤ (I 57 2 - 1).toInt64) ↔ zof x1 (σ.1 2)) := by
    intro I L hc
    rw [hc.1 2 (by decide), zof_r (by omega)]
  by_cases hv : zof x1 (σ.1 2)
  · obtain ⟨i, hil, hxi⟩ := hv.nat (by omega)
    subst hxi
    have b1 : wup σ.1 i (σ.1 0) < 2 ^ 44 := Nat.lt_of_le_of_lt (wup_le _) (p40 hw0.2)
    have b2 : 40 ^ (σ.1 0) < 2 ^ 44 := p40 hw0.2
    have b3 : 0 < 40 ^ (σ.1 0) := Nat.pow_pos (by decide)
    refine ⟨.int 1, sFrac σ (wup σ.1 i (σ.1 0)) (40 ^ (σ.1 0)), fun d b I L hc => ?_, fun d b I L hc => ?_, hi, Or.inl ⟨rfl, _, rfl⟩⟩
    · have one := (zfoot_one (I := I) (w := σ.1) (i := i) (t := 8)).n9 hw0.2
      have hc' := hc.w47 (zfoot_47 (I := I) (w := σ.1) (i := i) (t := 8))
      have e0 : zfoot I σ.1 i 8 b 0 = nI (σ.1 0) := hc'.2.1.1.1
      refine ⟨b, zfoot I σ.1 i 8, _, zCall.of okX11_feet (Nat.le_of_ble_eq_true rfl) ⟨Nat.le_refl _, Nat.le_refl _⟩ (fun G => tX11_feet_0 (d := d + 35) hc.1 zR0.w ⟨fun _ => ⟨_, kX10_follow (d := d + 35) (t := 8) hc.1.hl hi.1 hc.2.1 hil (by omega), ?_⟩, fun q => absurd ((f1 hc).mpr hv) q⟩), hc'.frac, zfoot_47.hi, (zhiL.rf.up (by decide)).up (by decide)⟩
      refine z_for (n := σ.1 0) (P := fun r => zA G (d + 40) mX11_feet 44 [some (.ref 0), some (.int (nI i)), some (.long (lN (wup σ.1 i r))), none, some (.long (lN (40 ^ r))), none, some (.int (nI r))] [] (zh b (zfoot I σ.1 i 8) L) _) ?_ ?_ 0 (Nat.zero_le _)
      · exact tX11_feet_44 (d := d + 35) hc.1 zR0.w ⟨fun _ => ⟨_, kX11_setFraction b1 b2 b3, rfl⟩, fun q => absurd (by rw [e0]; exact nI_le (Nat.le_refl _) (by omega)) q⟩
      · intro r hr ih
        have hp := vP_le (w := σ.1) (i := i) (t := 9) (r + 1)
        refine tX11_feet_44 (d := d + 35) hc.1 zR0.w ⟨fun q => absurd q (by rw [e0]; exact nI_ge hr (by omega)), fun _ => ?_⟩
        rw [zwayC, zx_nI (by omega), one.2.1 r hr, show (40 : Int32) = nI 40 from rfl, pk_sub (by omega), nI_L (by omega), lN_mul, show (40 : Int64) = lN 40 from rfl, lN_mul, nI_1]
        exact ⟨zv_in (by omega) (by decide), ih⟩
    · have e0 : zwk I σ.1 i 9 (σ.1 0) 57 0 = nI (σ.1 0) := by rw [zwk_ne (by omega)]; exact hc.1 0 (by decide)
      refine ⟨zwk I σ.1 i 9 (σ.1 0), _, zCall.of okX12_feet (Nat.le_of_ble_eq_true rfl) ⟨Nat.le_refl _, Nat.le_refl _⟩ (fun G => tX12_feet_0 (d := d + 36) zR0.w ⟨fun _ => ⟨_, kX12_walks (d := d + 36) hi.1 hc.1 hil, ?_⟩, fun q => absurd ((f2 hc).mpr hv) q⟩), (hc.w63 zwk_63s).frac, zwk_63s.lo, (zloL.rf.up (by decide)).up (by decide)⟩
      refine z_for (n := σ.1 0) (P := fun r => zA G (d + 40) mX12_feet 28 [some (.ref 56), some (.int (nI i)), some (.long (lN (wup σ.1 i r))), none, some (.long (lN (40 ^ r))), none, some (.int (nI r))] [] (zh b (zwk I σ.1 i 9 (σ.1 0)) L) _) ?_ ?_ 0 (Nat.zero_le _)
      · exact tX12_feet_28 (d := d + 36) zR0.w ⟨fun _ => ⟨_, _, kX12_fraction b1 b2 b3, rfl⟩, fun q => absurd (by rw [e0]; exact nI_le (Nat.le_refl _) (by omega)) q⟩
      · intro r hr ih
        have hp := vP_le (w := σ.1) (i := i) (t := 9) (r + 1)
        refine tX12_feet_28 (d := d + 36) zR0.w ⟨fun q => absurd q (by rw [e0]; exact nI_ge hr (by omega)), fun _ => ?_⟩
        rw [zx_nI (by omega), zwk_64 hr, show (40 : Int32) = nI 40 from rfl, pk_sub (by omega), nI_L (by omega), lN_mul, show (40 : Int64) = lN 40 from rfl, lN_mul, nI_1]
        exact ⟨zv_in (by omega) (by decide), ih⟩
  · refine ⟨.int (-2), sBad σ, sc_bad fun d b I L hc => ?_, sr_bad fun d b I L hc => ?_, hi, Or.inl ⟨rfl, _, rfl⟩⟩
    · exact zCall.of okX11_feet (Nat.le_of_ble_eq_true rfl) ⟨Nat.le_refl _, Nat.le_refl _⟩ (fun G => tX11_feet_0 (d := d + 35) hc.1 zR0.w ⟨fun q => absurd ((f1 hc).mp q) hv, fun _ => xBad _⟩)
    · exact zCall.of okX12_feet (Nat.le_of_ble_eq_true rfl) ⟨Nat.le_refl _, Nat.le_refl _⟩ (fun G => tX12_feet_0 (d := d + 36) zR0.w ⟨fun q => absurd ((f2 hc).mp q) hv, fun _ => yBad⟩)
