/-! the fence -/
/-- the first that g finds something in -/
def zso (g : Nat → Option Int32) : Nat → Nat → Option Int32
  | 0, _ => none
  | f + 1, e => (g e).orElse (fun _ => zso g f (e + 1))
theorem zso_s {g : Nat → Option Int32} {f e : Nat} : zso g (f + 1) e = (g e).orElse (fun _ => zso g f (e + 1)) := rfl
theorem zso_some {g : Nat → Option Int32} {x : Nat} {v : Int32} (hx : g x = some v) : ∀ f e, e ≤ x → x < e + f → ∃ a, zso g f e = some a := by
  intro f
  induction f with
  | zero => intro e h1 h2; omega
  | succ f ih =>
    intro e h1 h2
    rw [zso_s]
    by_cases z : e = x
    · subst z; rw [hx]; exact ⟨v, rfl⟩
    · cases hg : g e with
      | none => exact ih (e + 1) (by omega) (by omega)
      | some a => exact ⟨a, rfl⟩
def wfi (w : zW) (f p wd fs : Nat) : Option Int32 := if nI (100 * wsg (wwy w f (w 0)) fs wd) < nI (p * 2 ^ w 0) then none else some (nI (11 * fs + wd - 1))
def wfo (w : zW) (f p wd : Nat) : Option Int32 := zso (wfi w f p wd) (w 1 + 1 - wd) 0
theorem wfo_n {w : zW} {f p : Nat} (hw : winv w) (hf : f < w 1) (hp : p ≤ 100) : wfo w f p (w 1) = some (nI (w 1 - 1)) := by
  obtain ⟨⟨w0, w1, w2, w3, w4⟩, -⟩ := id hw
  have b2 : 2 ^ (w 0) ≤ 256 := Nat.pow_le_pow_right (n := 2) (by decide) w0.2
  have b3 : p * 2 ^ w 0 ≤ 100 * 2 ^ w 0 := Nat.mul_le_mul_right _ hp
  unfold wfo
  rw [show w 1 + 1 - w 1 = 0 + 1 by omega, zso_s]
  unfold wfi
  rw [wwy_sum hf, if_neg (fun q => absurd ((nI_ltI (by omega) (by omega)).mp q) (by omega)), show 11 * 0 + w 1 - 1 = w 1 - 1 by omega]
  rfl
section FENCE
variable {d b : Nat} {I : Nat → Nat → Int32} {L : Nat → Nat → Int64}
theorem kX1_partsWithin {f n : Nat} {q : Nat → Nat} (h : ∀ l, l < 6 → I 51 l = nI (q l)) (hn : f + n ≤ 6) (h1 : 1 ≤ n) : zCall d mX1_partsWithin [.ref 50, .int (nI f), .int (nI (f + n - 1))] (zh b I L) (some (.int (nI (wsg q f n))), zh b I L) := by
  refine zCall.of okX1_partsWithin (Nat.le_of_ble_eq_true rfl) ⟨Nat.le_refl _, Nat.le_refl _⟩ (fun G => tX1_partsWithin_0 ?_)
  refine z_for (n := n) (P := fun k => zA G d mX1_partsWithin 5 [some (.ref 50), some (.int (nI f)), some (.int (nI (f + n - 1))), some (.int (nI (wsg q f k))), some (.int (nI (f + k)))] [] (zh b I L) (some (.int (nI (wsg q f n))), zh b I L)) ?_ ?_ 0 (Nat.zero_le _)
  · exact tX1_partsWithin_5 ⟨fun _ => rfl, fun z => absurd (nI_lt (by omega) (by omega)) z⟩
  · intro k hk ih
    refine tX1_partsWithin_5 ⟨fun z => absurd ((nI_ltI (by omega) (by omega)).mp z) (by omega), fun _ => ⟨fun z => absurd z (nI_ge (b := 6) (by omega) (by decide)), fun _ => ?_⟩⟩
    rw [zx_nI (by omega), h _ (by omega), nI_add, nI_1]
    exact ⟨zv_in (by omega) (by decide), ih⟩
end FENCE
theorem p_fence (x1 x2 : Int32) : zPair mX11_fence mX12_fence [.int x1, .int x2] := by
  refine zPair.of fun σ hi => ?_
  obtain ⟨⟨hw0, hw1, hw2, hw3, hw4⟩, -⟩ := id hi.1
  have f1 : ∀ (x : Int32) {b : Nat} {I : Nat → Nat → Int32} {L : Nat → Nat → Int64}, zCl b I L σ → ((0 ≤ x ∧ x ≤ I b 1 - 1) ↔ zof x (σ.1 1)) := by
    intro x b I L hc
    rw [show I b 1 = nI (σ.1 1) from hc.2.1.1.2.1, zof_c (by omega)]
  have f2 : ∀ (x : Int32) {I : Nat → Nat → Int32} {L : Nat → Nat → Int64}, zRf I L σ → ((0 ≤ x.toInt64 ∧ x.toInt64 ≤ (I 57 1 - 1).toInt64) ↔ zof x (σ.1 1)) := by
    intro x I L hc
    rw [hc.1 1 (by decide), zof_r (by omega)]
  have e3 : (1 ≤ x2 ∧ x2 ≤ 100) ↔ zin x2 1 100 := zin_c (lo := 1) (hi := 100) (by decide) (by decide)
  have r3 : (1 ≤ x2.toInt64 ∧ x2.toInt64 ≤ 100) ↔ zin x2 1 100 := zin_r (lo := 1) (hi := 100) (by decide) (by decide)
  by_cases hv : zof x1 (σ.1 1) ∧ zin x2 1 100
  · obtain ⟨f, hf, hxf⟩ := hv.1.nat (by omega)
    obtain ⟨p, -, hp, hxp⟩ := hv.2.nat (by decide)
    subst hxf hxp
    obtain ⟨a, ha⟩ := zso_some (wfo_n hi.1 hf hp) (σ.1 1) 1 (by omega) (by omega)
    refine ⟨.int a, σ, fun d b I L hc => ?_, fun d b I L hc => ?_, hi, Or.inl ⟨rfl, _, rfl⟩⟩
    · obtain ⟨J, h1, h2, h3⟩ := kX1_roll (d := d + 38) (b := b) (L := L) hc.1.hl hi.1 hc.2.1 hf
      have hc' := hc.w52 h1
      have e0 : J b 0 = nI (σ.1 0) := hc'.2.1.1.1
      have e1 : J b 1 = nI (σ.1 1) := hc'.2.1.1.2.1
      refine ⟨b, J, L, zCall.of okX11_fence (Nat.le_of_ble_eq_true rfl) ⟨Nat.le_refl _, Nat.le_refl _⟩ (fun G => tX11_fence_0 (d := d + 38) hc.1 zR0.w ⟨fun q => absurd ((f1 _ hc).mpr hv.1) q, fun _ => ⟨fun _ => ⟨_, h3, ?_⟩, fun q => absurd (e3.mpr hv.2) q⟩⟩), hc', h1.hi, zhiL.rf⟩
      rw [e0, shl1 hw0.2, pk_mul]
      refine z_for (n := σ.1 1) (P := fun wd => 1 ≤ wd → zso (wfo σ.1 f p) (σ.1 1 + 1 - wd) wd = some a → zA G (d + 40) mX11_fence 61 [some (.ref 0), some (.int (nI f)), some (.int (nI p)), some (.int (nI (p * 2 ^ σ.1 0))), some (.int (nI wd)), none] [] (zh b J L) (some (.int a), zh b J L)) ?_ ?_ 1 hw1.1 (Nat.le_refl _) ha
      · intro _ hz
        rw [show σ.1 1 + 1 - σ.1 1 = 0 + 1 by omega, zso_s, wfo_n hi.1 hf hp] at hz
        have hz : nI (σ.1 1 - 1) = a := Option.some.inj hz
        refine tX11_fence_61 (d := d + 38) hc.1 ⟨fun _ => ?_, fun q => absurd (by rw [e1]; exact nI_le (Nat.le_refl _) (by omega)) q⟩
        rw [e1, show (1 : Int32) = nI 1 from rfl, pk_sub hw1.1, hz]
      · intro wd hwd ih h1w hz
        rw [show σ.1 1 + 1 - wd = (σ.1 1 + 1 - (wd + 1)) + 1 by omega, zso_s] at hz
        refine tX11_fence_61 (d := d + 38) hc.1 ⟨fun q => absurd q (by rw [e1]; exact nI_ge hwd (by omega)), fun _ => ?_⟩
        refine z_for (n := σ.1 1 + 1 - wd) (P := fun fs => (zso (wfi σ.1 f p wd) (σ.1 1 + 1 - wd - fs) fs).orElse (fun _ => zso (wfo σ.1 f p) (σ.1 1 + 1 - (wd + 1)) (wd + 1)) = some a → zA G (d + 40) mX11_fence 76 [some (.ref 0), some (.int (nI f)), some (.int (nI p)), some (.int (nI (p * 2 ^ σ.1 0))), some (.int (nI wd)), some (.int (nI fs))] [] (zh b J L) (some (.int a), zh b J L)) ?_ ?_ 0 (Nat.zero_le _) hz
        · intro hz2
          rw [Nat.sub_self] at hz2
          refine tX11_fence_76 (d := d + 38) hc.1 zR0.w ⟨fun _ => by rw [nI_1]; exact ih (by omega) hz2, fun q => absurd (by rw [e1, nI_add]; exact nI_lt (by omega) (by omega)) q⟩
        · intro fs hfs ih2 hz2
          rw [show σ.1 1 + 1 - wd - fs = (σ.1 1 + 1 - wd - (fs + 1)) + 1 by omega, zso_s] at hz2
          refine tX11_fence_76 (d := d + 38) hc.1 zR0.w ⟨fun q => absurd q (by rw [e1, nI_add]; exact fun z => absurd ((nI_ltI (by omega) (by omega)).mp z) (by omega)), fun _ => ⟨nI (wsg (wwy σ.1 f (σ.1 0)) fs wd), ?_, fun q => ?_, fun q => ?_⟩⟩
          · rw [nI_add, show (1 : Int32) = nI 1 from rfl, pk_sub (by omega)]
            exact kX1_partsWithin h2 (by omega) h1w
          · rw [show (100 : Int32) = nI 100 from rfl, pk_mul] at q
            unfold wfi at hz2
            rw [if_pos q] at hz2
            rw [nI_1]; exact ih2 hz2
          · rw [show (100 : Int32) = nI 100 from rfl, pk_mul] at q
            unfold wfi at hz2
            rw [if_neg q] at hz2
            have hz2 : nI (11 * fs + wd - 1) = a := Option.some.inj hz2
            rw [← hz2, show (10 : Int32) = nI 10 from rfl, pk_mul, nI_add, nI_add, show (1 : Int32) = nI 1 from rfl, pk_sub (by omega), show 10 * fs + fs + wd - 1 = 11 * fs + wd - 1 by omega]
    · obtain ⟨J, h1, h2, h3⟩ := kX12_rolls (d := d + 38) (b := b) (L := L) hi.1 hc.1 hf
      have e0 : J 57 0 = nI (σ.1 0) := h1.now hc.1 0 (by decide)
      have e1 : J 57 1 = nI (σ.1 1) := h1.now hc.1 1 (by decide)
      refine ⟨J, L, zCall.of okX12_fence (Nat.le_of_ble_eq_true rfl) ⟨Nat.le_refl _, Nat.le_refl _⟩ (fun G => tX12_fence_0 (d := d + 38) zR0.w ⟨fun q => absurd ((f2 _ hc).mpr hv.1) q, fun _ => ⟨fun _ => ⟨_, h3, ?_⟩, fun q => absurd (r3.mpr hv.2) q⟩⟩), hc.w63 h1, h1.lo, zloL.rf⟩
      refine z_for (n := σ.1 1 + 1) (P := fun wd => 1 ≤ wd → zso (wfo σ.1 f p) (σ.1 1 + 1 - wd) wd = some a → zA G (d + 40) mX12_fence 34 [some (.ref 56), some (.int (nI f)), some (.int (nI p)), some (.int (nI wd)), none, none, none] [] (zh b J L) (some (.int a), zh b J L)) ?_ ?_ 1 (by omega) (Nat.le_refl _) ha
      · intro _ hz
        rw [Nat.sub_self] at hz
        exact absurd hz (by intro z; cases z)
      · intro wd hwd ih h1w hz
        rw [show σ.1 1 + 1 - wd = (σ.1 1 + 1 - (wd + 1)) + 1 by omega, zso_s] at hz
        refine tX12_fence_34 (d := d + 38) ⟨fun q => absurd q (by rw [e1]; exact fun z => absurd ((nI_ltI (by omega) (by omega)).mp z) (by omega)), fun _ => ?_⟩
        refine z_for (n := σ.1 1 + 1 - wd) (P := fun fs => (zso (wfi σ.1 f p wd) (σ.1 1 + 1 - wd - fs) fs).orElse (fun _ => zso (wfo σ.1 f p) (σ.1 1 + 1 - (wd + 1)) (wd + 1)) = some a → zA G (d + 40) mX12_fence 47 [some (.ref 56), some (.int (nI f)), some (.int (nI p)), some (.int (nI wd)), some (.int (nI fs)), none, none] [] (zh b J L) (some (.int a), zh b J L)) ?_ ?_ 0 (Nat.zero_le _) hz
        · intro hz2
          rw [Nat.sub_self] at hz2
          refine tX12_fence_47 (d := d + 38) ⟨fun _ => by rw [nI_1]; exact ih (by omega) hz2, fun q => absurd (by rw [e1, nI_add]; exact nI_lt (by omega) (by omega)) q⟩
        · intro fs hfs ih2 hz2
          rw [show σ.1 1 + 1 - wd - fs = (σ.1 1 + 1 - wd - (fs + 1)) + 1 by omega, zso_s] at hz2
          refine tX12_fence_47 (d := d + 38) ⟨fun q => absurd q (by rw [e1, nI_add]; exact fun z => absurd ((nI_ltI (by omega) (by omega)).mp z) (by omega)), fun _ => ?_⟩
          refine z_for (n := wd) (P := fun k => zA G (d + 40) mX12_fence 67 [some (.ref 56), some (.int (nI f)), some (.int (nI p)), some (.int (nI wd)), some (.int (nI fs)), some (.int (nI (wsg (wwy σ.1 f (σ.1 0)) fs k))), some (.int (nI (fs + k)))] [] (zh b J L) (some (.int a), zh b J L)) ?_ ?_ 0 (Nat.zero_le _)
          · refine tX12_fence_67 (d := d + 38) ⟨fun _ => ?_, fun q => absurd (by rw [nI_add]; exact nI_le (Nat.le_refl _) (by omega)) q⟩
            rw [show (100 : Int32) = nI 100 from rfl, pk_mul, e0, shlp hw0.2 hp]
            refine ⟨fun q => ?_, fun q => ?_⟩
            · unfold wfi at hz2
              rw [if_pos q] at hz2
              rw [nI_1]; exact ih2 hz2
            · unfold wfi at hz2
              rw [if_neg q] at hz2
              have hz2 : nI (11 * fs + wd - 1) = a := Option.some.inj hz2
              rw [← hz2, show (11 : Int32) = nI 11 from rfl, pk_mul, nI_add, show (1 : Int32) = nI 1 from rfl, pk_sub (by omega)]
          · intro k hk ih3
            refine tX12_fence_67 (d := d + 38) ⟨fun q => absurd q (by rw [nI_add]; exact nI_ge (by omega) (by omega)), fun _ => ?_⟩
            rw [zx_nI (by omega), h2 _ (by omega), nI_add, nI_1]
            exact ⟨zv_in (by omega) (by decide), ih3⟩
  · refine ⟨.int (-2), sBad σ, sc_bad fun d b I L hc => ?_, sr_bad fun d b I L hc => ?_, hi, Or.inl ⟨rfl, _, rfl⟩⟩
    · exact zCall.of okX11_fence (Nat.le_of_ble_eq_true rfl) ⟨Nat.le_refl _, Nat.le_refl _⟩ (fun G => tX11_fence_0 (d := d + 38) hc.1 zR0.w ⟨fun _ => xBad _, fun q1 => ⟨fun q3 => absurd ⟨(f1 _ hc).mp q1, e3.mp q3⟩ hv, fun _ => xBad _⟩⟩)
    · exact zCall.of okX12_fence (Nat.le_of_ble_eq_true rfl) ⟨Nat.le_refl _, Nat.le_refl _⟩ (fun G => tX12_fence_0 (d := d + 38) zR0.w ⟨fun _ => yBad, fun q1 => ⟨fun q3 => absurd ⟨(f2 _ hc).mp q1, r3.mp q3⟩ hv, fun _ => yBad⟩⟩)
