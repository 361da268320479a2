/-! counting; pair: place -/
def zct (p : Nat → Bool) : Nat → Nat
  | 0 => 0
  | n + 1 => zct p n + (if p n = true then 1 else 0)
theorem zct_le {p : Nat → Bool} : ∀ n, zct p n ≤ n := by
  intro n
  induction n with
  | zero => exact Nat.le_refl _
  | succ n ih => simp only [zct]; split <;> omega
theorem zct_mono {p q : Nat → Bool} : ∀ n, (∀ j, j < n → p j = true → q j = true) → zct p n ≤ zct q n := by
  intro n
  induction n with
  | zero => intro _; exact Nat.le_refl _
  | succ n ih =>
    intro h
    have h1 := ih (fun j hj => h j (by omega))
    have h2 := h n (by omega)
    simp only [zct]
    by_cases z : p n = true
    · rw [if_pos z, if_pos (h2 z)]; omega
    · rw [if_neg z]; omega
theorem zct_lt {p q : Nat → Bool} {i : Nat} : ∀ n, i < n → (∀ j, j < n → p j = true → q j = true) → p i = false → q i = true → zct p n < zct q n := by
  intro n
  induction n with
  | zero => intro hi; exact absurd hi (Nat.not_lt_zero i)
  | succ n ih =>
    intro hi h h1 h2
    simp only [zct]
    by_cases z : i = n
    · subst z
      have := zct_mono (p := p) (q := q) i (fun j hj => h j (by omega))
      rw [h1, if_neg (by decide), if_pos h2]
      omega
    · have := ih (by omega) (fun j hj => h j (by omega)) h1 h2
      by_cases z : p n = true
      · rw [if_pos z, if_pos (h n (by omega) z)]; omega
      · rw [if_neg z]; omega
/-- when runner i is down -/
def wD (w : zW) (i : Nat) : Nat := w (113 + i) + vT w i 9 (w 0)
def wah (w : zW) (i j : Nat) : Bool := decide (wD w j < wD w i ∨ (wD w j = wD w i ∧ j < i))
def wrank (w : zW) (i : Nat) : Nat := zct (wah w i) (w 2)
theorem wrank_lt {w : zW} {i j : Nat} (hi : i < w 2) (h : wah w j i = true) : wrank w i < wrank w j := by
  have h' := of_decide_eq_true h
  refine zct_lt (i := i) _ hi (fun k _ hk => ?_) ?_ h
  · have hk' := of_decide_eq_true hk
    exact decide_eq_true (by omega)
  · exact decide_eq_false (by omega)
theorem wrank_inj {w : zW} {i j : Nat} (hi : i < w 2) (hj : j < w 2) (h : wrank w i = wrank w j) : i = j := by
  by_cases z : i = j
  · exact z
  · by_cases q : wah w j i = true
    · have := wrank_lt hi q; omega
    · have q' : ¬ (wD w i < wD w j ∨ (wD w i = wD w j ∧ i < j)) := fun u => q (decide_eq_true u)
      have := wrank_lt (i := j) (j := i) hj (decide_eq_true (by omega))
      omega
/-- who comes in place k -/
def wpl (w : zW) (k : Nat) (n : Nat) (a : Int32) : Prop := (∃ i, i < n ∧ wrank w i = k ∧ a = nI i) ∨ ((∀ i, i < n → wrank w i ≠ k) ∧ a = -1)
theorem wpl_ex (w : zW) (k : Nat) : ∀ n, ∃ a, wpl w k n a := by
  intro n
  by_cases h : ∃ i, i < n ∧ wrank w i = k
  · obtain ⟨i, h1, h2⟩ := h
    exact ⟨nI i, Or.inl ⟨i, h1, h2, rfl⟩⟩
  · exact ⟨-1, Or.inr ⟨fun i hi e => h ⟨i, hi, e⟩, rfl⟩⟩
theorem wpl_un {w : zW} {k : Nat} {a a' : Int32} (h : wpl w k (w 2) a) (h' : wpl w k (w 2) a') : a = a' := by
  rcases h with ⟨i, h1, h2, h3⟩ | ⟨h1, h2⟩
  · rcases h' with ⟨j, g1, g2, g3⟩ | ⟨g1, g2⟩
    · rw [h3, g3, wrank_inj h1 g1 (h2.trans g2.symm)]
    · exact absurd h2 (g1 i h1)
  · rcases h' with ⟨j, g1, g2, g3⟩ | ⟨g1, g2⟩
    · exact absurd g2 (h1 j g1)
    · rw [h2, g2]
section PLACE
variable {d b : Nat} {I : Nat → Nat → Int32} {L : Nat → Nat → Int64}
theorem wD_le {w : zW} (hw : winv w) {i : Nat} (hi : i < w 2) : wD w i ≤ 1279 := by
  have h1 := vT_le (w := w) (i := i) (t := 9) (w 0)
  have h2 := (hw.2.2.2.1 i hi).2.2.1
  have h3 := hw.1.1
  unfold wD
  omega
theorem kX11_runnerInPlace {k : Nat} {a : Int32} {σ : zσ} (hc : zCl b I L σ) (hw : winv σ.1) (ha : wAll I σ.1 (σ.1 2)) (hk : k < 2 ^ 31) (hp : wpl σ.1 k (σ.1 2) a) : zCall (d + 2) mX11_runnerInPlace [.ref 0, .int (nI k)] (zh b I L) (some (.int a), zh b I L) := by
  obtain ⟨⟨w0, w1, w2, w3, w4⟩, -⟩ := id hw
  have e2 : I b 2 = nI (σ.1 2) := hc.2.1.1.2.2.1
  refine zCall.of okX11_runnerInPlace (Nat.le_of_ble_eq_true rfl) ⟨Nat.le_refl _, Nat.le_refl _⟩ (fun G => tX11_runnerInPlace_0 ?_)
  refine z_for (n := σ.1 2) (P := fun i => (∀ j, j < i → wrank σ.1 j ≠ k) → zA G (d + 2) mX11_runnerInPlace 2 [some (.ref 0), some (.int (nI k)), some (.int (nI i)), none, none] [] (zh b I L) (some (.int a), zh b I L)) ?_ ?_ 0 (Nat.zero_le _) (fun j hj => absurd hj (Nat.not_lt_zero j))
  · intro hn
    have ea : a = -1 := wpl_un hp (Or.inr ⟨hn, rfl⟩)
    subst ea
    exact tX11_runnerInPlace_2 hc.1 ⟨fun _ => rfl, fun q => absurd (by rw [e2]; exact nI_le (Nat.le_refl _) (by omega)) q⟩
  · intro i hi ih hn
    refine tX11_runnerInPlace_2 hc.1 ⟨fun q => absurd q (by rw [e2]; exact nI_ge hi (by omega)), fun _ => ?_⟩
    have di := wD_le hw hi
    refine z_for (n := σ.1 2) (P := fun j => zA G (d + 2) mX11_runnerInPlace 18 [some (.ref 0), some (.int (nI k)), some (.int (nI i)), some (.int (nI (zct (wah σ.1 i) j))), some (.int (nI j))] [] (zh b I L) (some (.int a), zh b I L)) ?_ ?_ 0 (Nat.zero_le _)
    · have hr := zct_le (p := wah σ.1 i) (σ.1 2)
      refine tX11_runnerInPlace_18 hc.1 zR0.w ⟨fun _ => ⟨fun q => ?_, fun q => ?_⟩, fun q => absurd (by rw [e2]; exact nI_le (Nat.le_refl _) (by omega)) q⟩
      · rw [nI_1]
        exact ih (fun j hj => by
          by_cases z : j = i
          · subst z; intro z2; exact q (by rw [show zct (wah σ.1 j) (σ.1 2) = k from z2])
          · exact hn j (by omega))
      · have q' := (nI_eq (by omega) hk).mp q
        rw [wpl_un hp (Or.inl ⟨i, hi, q', rfl⟩)]
    · intro j hj ih2
      have dj := wD_le hw hj
      have kj := kX11_downAt (d := d) hc hj hw (ha j hj)
      have ki := kX11_downAt (d := d) hc hi hw (ha i hi)
      have st : ∀ c : Bool, wah σ.1 i j = c → zct (wah σ.1 i) (j + 1) = zct (wah σ.1 i) j + (if c = true then 1 else 0) := fun c hc => by simp only [zct]; rw [hc]
      have y : wah σ.1 i j = true → zA G (d + 2) mX11_runnerInPlace 18 [some (.ref 0), some (.int (nI k)), some (.int (nI i)), some (.int (nI (zct (wah σ.1 i) j) + 1)), some (.int (nI j + 1))] [] (zh b I L) (some (.int a), zh b I L) := fun hc => by
        rw [nI_1, nI_1]; rw [st true hc, if_pos rfl] at ih2; exact ih2
      have n : wah σ.1 i j = false → zA G (d + 2) mX11_runnerInPlace 18 [some (.ref 0), some (.int (nI k)), some (.int (nI i)), some (.int (nI (zct (wah σ.1 i) j))), some (.int (nI j + 1))] [] (zh b I L) (some (.int a), zh b I L) := fun hc => by
        rw [nI_1]; rw [st false hc, if_neg (by decide)] at ih2; exact ih2
      have c1 : nI (wD σ.1 j) < nI (wD σ.1 i) ↔ wD σ.1 j < wD σ.1 i := nI_ltI (by omega) (by omega)
      have c2 : nI (wD σ.1 j) = nI (wD σ.1 i) ↔ wD σ.1 j = wD σ.1 i := nI_eq (by omega) (by omega)
      refine tX11_runnerInPlace_18 hc.1 zR0.w ⟨fun q => absurd q (by rw [e2]; exact nI_ge hj (by omega)), fun _ => ⟨_, kj, _, ki, fun q => ?_, fun q => ⟨_, kj, _, ki, fun q2 => ?_, fun q2 => ⟨fun q3 => ?_, fun q3 => ?_⟩⟩⟩⟩
      · exact y (decide_eq_true (Or.inl (c1.mp q)))
      · exact n (decide_eq_false (fun z => z.elim (fun z => q (c1.mpr z)) (fun z => q2 (c2.mpr z.1))))
      · exact n (decide_eq_false (fun z => z.elim (fun z => q (c1.mpr z)) (fun z => absurd q3 (nI_ge z.2 (by omega)))))
      · exact y (decide_eq_true (Or.inr ⟨c2.mp q2, Nat.lt_of_not_le (fun z => q3 (nI_le z (by omega)))⟩))
theorem kX12_placeOf {i : Nat} {w : zW} (hw : winv w) (h : ∀ k, k < 463 → I 57 k = nI (w k)) (hi : i < w 2) : ∃ J, z63 I J ∧ zCall (d + 5) mX12_placeOf [.ref 56, .int (nI i)] (zh b I L) (some (.int (nI (wrank w i))), zh b J L) := by
  obtain ⟨⟨w0, w1, w2, w3, w4⟩, -⟩ := id hw
  have di := wD_le hw hi
  have key := z_for (n := w 2) (P := fun j => ∀ J, z63 I J → ∃ J', z63 I J' ∧ ∀ G, zA G (d + 5) mX12_placeOf 11 [some (.ref 56), some (.int (nI i)), some (.int (nI (wD w i))), some (.int (nI (zct (wah w i) j))), some (.int (nI j))] [] (zh b J L) (some (.int (nI (wrank w i))), zh b J' L)) ?_ ?_ 0 (Nat.zero_le _)
  · obtain ⟨J', h1, h2⟩ := key (zwk I w i 9 (w 0)) zwk_63s
    exact ⟨J', h1, zCall.of okX12_placeOf (Nat.le_of_ble_eq_true rfl) ⟨Nat.le_refl _, Nat.le_refl _⟩ (fun G => tX12_placeOf_0 zR0.w ⟨_, _, kX12_downOf hw h hi, h2 G⟩)⟩
  · intro J hJ
    have e2 := hJ.now h 2 (by decide)
    exact ⟨J, hJ, fun G => tX12_placeOf_11 zR0.w ⟨fun _ => rfl, fun q => absurd (by rw [e2]; exact nI_le (Nat.le_refl _) (by omega)) q⟩⟩
  · intro j hj ih J hJ
    have e2 := hJ.now h 2 (by decide)
    have dj := wD_le hw hj
    obtain ⟨Ja, a1, a2⟩ := ih (zwk J w j 9 (w 0)) hJ.wk
    obtain ⟨Jb, b1, b2⟩ := ih (zwk (zwk J w j 9 (w 0)) w j 9 (w 0)) hJ.wk.wk
    have st : ∀ c : Bool, wah w i j = c → zct (wah w i) (j + 1) = zct (wah w i) j + (if c = true then 1 else 0) := fun c hc => by simp only [zct]; rw [hc]
    have c1 : nI (wD w j) < nI (wD w i) ↔ wD w j < wD w i := nI_ltI (by omega) (by omega)
    have c2 : nI (wD w j) = nI (wD w i) ↔ wD w j = wD w i := nI_eq (by omega) (by omega)
    have k1 := kX12_downOf (d := d) (b := b) (L := L) hw (hJ.now h) hj
    have k2 := kX12_downOf (d := d) (b := b) (L := L) hw (hJ.wk.now h (J := zwk J w j 9 (w 0))) hj
    by_cases hh : wD w j < wD w i
    · rw [st true (decide_eq_true (Or.inl hh)), if_pos rfl] at a2
      refine ⟨Ja, a1, fun G => tX12_placeOf_11 zR0.w ⟨fun q => absurd q (by rw [e2]; exact nI_ge hj (by omega)), fun _ => ⟨_, _, k1, fun _ => ?_, fun q => absurd (c1.mpr hh) q⟩⟩⟩
      rw [nI_1, nI_1]; exact a2 G
    · refine ⟨Jb, b1, fun G => tX12_placeOf_11 zR0.w ⟨fun q => absurd q (by rw [e2]; exact nI_ge hj (by omega)), fun _ => ⟨_, _, k1, fun q => absurd (c1.mp q) hh, fun _ => ⟨_, _, k2, fun q2 => ?_, fun q2 => ⟨fun q3 => ?_, fun q3 => ?_⟩⟩⟩⟩⟩
      · rw [st false (decide_eq_false (fun z => z.elim hh (fun z => q2 (c2.mpr z.1)))), if_neg (by decide)] at b2
        rw [nI_1, Int32.add_zero]; exact b2 G
      · rw [st false (decide_eq_false (fun z => z.elim hh (fun z => absurd q3 (nI_ge z.2 (by omega))))), if_neg (by decide)] at b2
        rw [nI_1, Int32.add_zero]; exact b2 G
      · rw [st true (decide_eq_true (Or.inr ⟨c2.mp q2, Nat.lt_of_not_le (fun z => q3 (nI_le z (by omega)))⟩)), if_pos rfl] at b2
        rw [nI_1, nI_1]; exact b2 G
theorem kX12_place {k : Nat} {a : Int32} {w : zW} (hw : winv w) (h : ∀ k, k < 463 → I 57 k = nI (w k)) (hk : k < 2 ^ 31) (hp : wpl w k (w 2) a) : ∃ J, z63 I J ∧ zCall (d + 6) mX12_place [.ref 56, .int (nI k)] (zh b I L) (some (.int a), zh b J L) := by
  obtain ⟨⟨w0, w1, w2, w3, w4⟩, -⟩ := id hw
  have key := z_for (n := w 2) (P := fun i => ∀ J f, z63 I J → wpl w k i f → ∃ J', z63 I J' ∧ ∀ G, zA G (d + 6) mX12_place 15 [some (.ref 56), some (.int (nI k)), some (.int f), some (.int (nI i))] [] (zh b J L) (some (.int a), zh b J' L)) ?_ ?_ 0 (Nat.zero_le _)
  · obtain ⟨J', h1, h2⟩ := key I (-1) z63.rf (Or.inr ⟨fun i hi => absurd hi (Nat.not_lt_zero i), rfl⟩)
    refine ⟨J', h1, zCall.of okX12_place (Nat.le_of_ble_eq_true rfl) ⟨Nat.le_refl _, Nat.le_refl _⟩ (fun G => tX12_place_0 zR0.w ⟨fun _ => h2 G, fun q => absurd (nI_le (Nat.zero_le k) hk) q⟩)⟩
  · intro J f hJ hf
    have e2 := hJ.now h 2 (by decide)
    have ef := wpl_un hf hp
    subst ef
    exact ⟨J, hJ, fun G => tX12_place_15 zR0.w ⟨fun _ => rfl, fun q => absurd (by rw [e2]; exact nI_le (Nat.le_refl _) (by omega)) q⟩⟩
  · intro i hi ih J f hJ hf
    have e2 := hJ.now h 2 (by decide)
    have hr := zct_le (p := wah w i) (w 2)
    obtain ⟨J1, g1, g2⟩ := kX12_placeOf (d := d) (b := b) (L := L) hw (hJ.now h) hi
    have c1 : nI (wrank w i) = nI k ↔ wrank w i = k := nI_eq (by unfold wrank; omega) hk
    by_cases z : wrank w i = k
    · obtain ⟨Ja, a1, a2⟩ := ih J1 (nI i) (hJ.trans g1) (Or.inl ⟨i, by omega, z, rfl⟩)
      refine ⟨Ja, a1, fun G => tX12_place_15 zR0.w ⟨fun q => absurd q (by rw [e2]; exact nI_ge hi (by omega)), fun _ => ⟨_, _, g2, fun q => absurd (c1.mpr z) q, fun _ => ?_⟩⟩⟩
      rw [nI_1]; exact a2 G
    · obtain ⟨Ja, a1, a2⟩ := ih J1 f (hJ.trans g1) (by
        rcases hf with ⟨j, j1, j2, j3⟩ | ⟨j1, j2⟩
        · exact Or.inl ⟨j, by omega, j2, j3⟩
        · exact Or.inr ⟨fun j hj => by
            by_cases u : j = i
            · subst u; exact z
            · exact j1 j (by omega), j2⟩)
      refine ⟨Ja, a1, fun G => tX12_place_15 zR0.w ⟨fun q => absurd q (by rw [e2]; exact nI_ge hi (by omega)), fun _ => ⟨_, _, g2, fun _ => ?_, fun q => absurd (c1.mp q) z⟩⟩⟩
      rw [nI_1]; exact a2 G
end PLACE
theorem p_place (x1 : Int32) : zPair mX11_place mX12_place [.int x1] := by
  refine zPair.of fun σ hi => ?_
  obtain ⟨⟨hw0, hw1, hw2, hw3, hw4⟩, -⟩ := id hi.1
  by_cases hv : 0 ≤ x1
  · have hx : ∃ k, k < 2 ^ 31 ∧ x1 = nI k := by
      have h1 : 0 ≤ x1.toInt := Int32.le_iff_toInt_le.mp hv
      have h2 := Int32.toInt_lt x1
      refine ⟨x1.toInt.toNat, by omega, ?_⟩
      apply Int32.toInt_inj.mp
      rw [nI_toInt (by omega)]
      omega
    obtain ⟨k, hk, rfl⟩ := hx
    obtain ⟨a, ha⟩ := wpl_ex σ.1 k (σ.1 2)
    refine ⟨.int a, σ, fun d b I L hc => ?_, fun d b I L hc => ?_, hi, Or.inl ⟨rfl, _, rfl⟩⟩
    · obtain ⟨J, h1, h2, h3⟩ := kX10_followAll (d := d + 34) (b := b) (L := L) hc.1.hl hi.1 hc.2.1
      exact ⟨b, J, L, zCall.of okX11_place (Nat.le_of_ble_eq_true rfl) ⟨Nat.le_refl _, Nat.le_refl _⟩ (fun G => tX11_place_0 (d := d + 34) zR0.w ⟨fun _ => ⟨_, h3, _, kX11_runnerInPlace (d := d + 37) (hc.w47 h1) hi.1 h2 hk ha, rfl⟩, fun q => absurd hv q⟩), hc.w47 h1, h1.hi, zhiL.rf⟩
    · obtain ⟨J, h1, h2⟩ := kX12_place (d := d + 34) (b := b) (L := L) hi.1 hc.1 hk ha
      exact ⟨J, L, h2, hc.w63 h1, h1.lo, zloL.rf⟩
  · refine ⟨.int (-2), sBad σ, sc_bad fun d b I L hc => ?_, sr_bad fun d b I L hc => ?_, hi, Or.inl ⟨rfl, _, rfl⟩⟩
    · exact zCall.of okX11_place (Nat.le_of_ble_eq_true rfl) ⟨Nat.le_refl _, Nat.le_refl _⟩ (fun G => tX11_place_0 (d := d + 34) zR0.w ⟨fun q => absurd q hv, fun _ => xBad _⟩)
    · exact zCall.of okX12_place (Nat.le_of_ble_eq_true rfl) ⟨Nat.le_refl _, Nat.le_refl _⟩ (fun G => tX12_place_0 (d := d + 34) zR0.w ⟨fun q => absurd q hv, fun _ => yBad⟩)
