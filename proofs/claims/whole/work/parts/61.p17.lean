/-! pairs: digest, type, drawn -/
def dg1 (σ : zσ) : Nat → Int64
  | 0 => 809
  | k + 1 => 31 * dg1 σ k + (nI (scount σ k)).toInt64
def dg2 (w : zW) (r : Nat) (h : Int64) : Nat → Int64
  | 0 => h
  | l + 1 => 31 * (31 * dg2 w r h l + (nI (w (5 + (6 * r + l)))).toInt64) + (nI (w (53 + (6 * r + l)))).toInt64
def dg3 (w : zW) (h : Int64) : Nat → Int64
  | 0 => h
  | r + 1 => dg2 w r (dg3 w h r) (w 1)
def dg4 (w : zW) (i : Nat) (h : Int64) : Nat → Int64
  | 0 => h
  | r + 1 => 31 * dg4 w i h r + (nI (w (119 + 8 * i + r))).toInt64
def dg5 (w : zW) (h : Int64) : Nat → Int64
  | 0 => h
  | i + 1 => dg4 w i (31 * (31 * (31 * dg5 w h i + (nI (w (101 + i))).toInt64) + (nI (w (107 + i))).toInt64) + (nI (w (113 + i))).toInt64) (w 0)
def dg6 (w : zW) (h : Int64) : Nat → Int64
  | 0 => h
  | k + 1 => 31 * dg6 w h k + (nI (w (167 + k))).toInt64
def dga (σ : zσ) : Int64 := dg3 σ.1 (dg1 σ 6) (σ.1 0)
def dgb (σ : zσ) : Int64 := dg5 σ.1 (dga σ) (σ.1 2)
theorem p_digest : zPair mX11_digest mX12_digest [] := by
  refine zPair.of fun σ hi => ?_
  obtain ⟨⟨hw0, hw1, hw2, hw3, hw4⟩, -⟩ := id hi.1
  refine ⟨.long (31 * (31 * dg6 σ.1 (dgb σ) (σ.1 3) + σ.2.2.1.1) + σ.2.2.1.2), σ, sc_same fun d b I L hc => ?_, sr_same fun d b I L hc => ?_, hi, Or.inr ⟨rfl, _, rfl⟩⟩
  · have e0 : I b 0 = nI (σ.1 0) := hc.2.1.1.1
    have e1 : I b 1 = nI (σ.1 1) := hc.2.1.1.2.1
    have e2 : I b 2 = nI (σ.1 2) := hc.2.1.1.2.2.1
    have e3 : I b 3 = nI (σ.1 3) := hc.2.1.1.2.2.2.1
    refine zCall.of okX11_digest (Nat.le_of_ble_eq_true rfl) ⟨Nat.le_refl _, Nat.le_refl _⟩ (fun G => tX11_digest_0 (d := d + 39) ?_)
    refine z_for (n := 6) (P := fun k => zA G (d + 40) mX11_digest 6 [some (.ref 0), some (.long (dg1 σ k)), none, some (.int (nI k)), none] [] (zh b I L) _) ?_ ?_ 0 (Nat.zero_le _)
    · refine tX11_digest_6 (d := d + 39) zR0.w ⟨fun _ => ?_, fun q => absurd (by decide) q⟩
      refine z_for (n := σ.1 0) (P := fun r => zA G (d + 40) mX11_digest 32 [some (.ref 0), some (.long (dg3 σ.1 (dg1 σ 6) r)), none, some (.int (nI r)), none] [] (zh b I L) _) ?_ ?_ 0 (Nat.zero_le _)
      · refine tX11_digest_32 (d := d + 39) hc.1 ⟨fun _ => ?_, fun q => absurd (by rw [e0]; exact nI_le (Nat.le_refl _) (by omega)) q⟩
        refine z_for (n := σ.1 2) (P := fun i => zA G (d + 40) mX11_digest 116 [some (.ref 0), some (.long (dg5 σ.1 (dga σ) i)), none, some (.int (nI i)), none] [] (zh b I L) _) ?_ ?_ 0 (Nat.zero_le _)
        · refine tX11_digest_116 (d := d + 39) hc.1 ⟨fun _ => ?_, fun q => absurd (by rw [e2]; exact nI_le (Nat.le_refl _) (by omega)) q⟩
          refine z_for (n := σ.1 3) (P := fun k => zA G (d + 40) mX11_digest 229 [some (.ref 0), some (.long (dg6 σ.1 (dgb σ) k)), none, some (.int (nI k)), none] [] (zh b I L) _) ?_ ?_ 0 (Nat.zero_le _)
          · refine tX11_digest_229 (d := d + 39) hc.1 ⟨fun _ => ?_, fun q => absurd (by rw [e3]; exact nI_le (Nat.le_refl _) (by omega)) q⟩
            rw [hc.2.2.2.1.1, hc.2.2.2.1.2]
          · intro k hk ih
            refine tX11_digest_229 (d := d + 39) hc.1 ⟨fun q => absurd q (by rw [e3]; exact nI_ge hk (by omega)), fun _ => ?_⟩
            rw [zx_nI (by omega), show I (b + 7) k = nI (σ.1 (167 + k)) from hc.2.1.2.2.2.2.1 k hk, nI_1]
            exact ⟨zv_in (by omega) (by decide), ih⟩
        · intro i hil ih
          obtain ⟨c1, c2, c3, c4⟩ := hc.2.1.2.2.2.1 i hil
          refine tX11_digest_116 (d := d + 39) hc.1 ⟨fun q => absurd q (by rw [e2]; exact nI_ge hil (by omega)), fun _ => ?_⟩
          rw [zx_nI (by omega), show I (b + 3) i = nI (σ.1 (101 + i)) from c1, show I (b + 4) i = nI (σ.1 (107 + i)) from c2, show I (b + 5) i = nI (σ.1 (113 + i)) from c3]
          refine ⟨zv_in (by omega) (by decide), zv_in (by omega) (by decide), zv_in (by omega) (by decide), ?_⟩
          refine z_for (n := σ.1 0) (P := fun r => zA G (d + 40) mX11_digest 181 [some (.ref 0), some (.long (dg4 σ.1 i (31 * (31 * (31 * dg5 σ.1 (dga σ) i + (nI (σ.1 (101 + i))).toInt64) + (nI (σ.1 (107 + i))).toInt64) + (nI (σ.1 (113 + i))).toInt64) r)), none, some (.int (nI i)), some (.int (nI r))] [] (zh b I L) _) ?_ ?_ 0 (Nat.zero_le _)
          · exact tX11_digest_181 (d := d + 39) hc.1 zR0.w ⟨fun _ => by rw [nI_1]; exact ih, fun q => absurd (by rw [e0]; exact nI_le (Nat.le_refl _) (by omega)) q⟩
          · intro r hr ih2
            refine tX11_digest_181 (d := d + 39) hc.1 zR0.w ⟨fun q => absurd q (by rw [e0]; exact nI_ge hr (by omega)), fun _ => ?_⟩
            rw [zlineC, zx_nI (by omega), show I (b + 6) (8 * i + r) = nI (σ.1 (119 + 8 * i + r)) from c4 r (by omega), nI_1]
            exact ⟨zv_in (by omega) (by decide), ih2⟩
      · intro r hr ih
        refine tX11_digest_32 (d := d + 39) hc.1 ⟨fun q => absurd q (by rw [e0]; exact nI_ge hr (by omega)), fun _ => ?_⟩
        refine z_for (n := σ.1 1) (P := fun l => zA G (d + 40) mX11_digest 46 [some (.ref 0), some (.long (dg2 σ.1 r (dg3 σ.1 (dg1 σ 6) r) l)), none, some (.int (nI r)), some (.int (nI l))] [] (zh b I L) _) ?_ ?_ 0 (Nat.zero_le _)
        · exact tX11_digest_46 (d := d + 39) hc.1 zR0.w ⟨fun _ => by rw [nI_1]; exact ih, fun q => absurd (by rw [e1]; exact nI_le (Nat.le_refl _) (by omega)) q⟩
        · intro l hl ih2
          refine tX11_digest_46 (d := d + 39) hc.1 zR0.w ⟨fun q => absurd q (by rw [e1]; exact nI_ge hl (by omega)), fun _ => ?_⟩
          rw [zcellC, zx_nI (by omega), show I (b + 1) (6 * r + l) = nI (σ.1 (5 + (6 * r + l))) from hc.2.1.2.1 _ (by omega), show I (b + 2) (6 * r + l) = nI (σ.1 (53 + (6 * r + l))) from hc.2.1.2.2.1 _ (by omega), nI_1]
          exact ⟨zv_in (by omega) (by decide), zv_in (by omega) (by decide), ih2⟩
    · intro k hk ih
      refine tX11_digest_6 (d := d + 39) zR0.w ⟨fun q => absurd ((nI_ltI (a := 5) (by decide) (by omega)).mp q) (by omega), fun _ => ⟨_, kX11_amountOf hc (by omega), ?_⟩⟩
      rw [nI_1]; exact ih
  · have e0 := hc.1 0 (by decide)
    have e1 := hc.1 1 (by decide)
    have e2 := hc.1 2 (by decide)
    have e3 := hc.1 3 (by decide)
    refine zCall.of okX12_digest (Nat.le_of_ble_eq_true rfl) ⟨Nat.le_refl _, Nat.le_refl _⟩ (fun G => tX12_digest_0 (d := d + 39) ?_)
    refine z_for (n := 6) (P := fun k => zA G (d + 40) mX12_digest 6 [some (.ref 56), some (.long (dg1 σ k)), none, some (.int (nI k)), none] [] (zh b I L) _) ?_ ?_ 0 (Nat.zero_le _)
    · refine tX12_digest_6 (d := d + 39) zR0.w ⟨fun _ => ?_, fun q => absurd (by decide) q⟩
      refine z_for (n := σ.1 0) (P := fun r => zA G (d + 40) mX12_digest 33 [some (.ref 56), some (.long (dg3 σ.1 (dg1 σ 6) r)), none, some (.int (nI r)), none] [] (zh b I L) _) ?_ ?_ 0 (Nat.zero_le _)
      · refine tX12_digest_33 (d := d + 39) ⟨fun _ => ?_, fun q => absurd (by rw [e0]; exact nI_le (Nat.le_refl _) (by omega)) q⟩
        refine z_for (n := σ.1 2) (P := fun i => zA G (d + 40) mX12_digest 109 [some (.ref 56), some (.long (dg5 σ.1 (dga σ) i)), none, some (.int (nI i)), none] [] (zh b I L) _) ?_ ?_ 0 (Nat.zero_le _)
        · refine tX12_digest_109 (d := d + 39) ⟨fun _ => ?_, fun q => absurd (by rw [e2]; exact nI_le (Nat.le_refl _) (by omega)) q⟩
          refine z_for (n := σ.1 3) (P := fun k => zA G (d + 40) mX12_digest 217 [some (.ref 56), some (.long (dg6 σ.1 (dgb σ) k)), none, some (.int (nI k)), none] [] (zh b I L) _) ?_ ?_ 0 (Nat.zero_le _)
          · refine tX12_digest_217 (d := d + 39) ⟨fun _ => ?_, fun q => absurd (by rw [e3]; exact nI_le (Nat.le_refl _) (by omega)) q⟩
            rw [hc.2.2.1.1, hc.2.2.1.2]
          · intro k hk ih
            refine tX12_digest_217 (d := d + 39) ⟨fun q => absurd q (by rw [e3]; exact nI_ge hk (by omega)), fun _ => ?_⟩
            rw [show (167 : Int32) = nI 167 from rfl, nI_add, zx_nI (by omega), hc.1 _ (by omega), nI_1]
            exact ⟨zv_in (by omega) (by decide), ih⟩
        · intro i hil ih
          refine tX12_digest_109 (d := d + 39) ⟨fun q => absurd q (by rw [e2]; exact nI_ge hil (by omega)), fun _ => ?_⟩
          rw [show (101 : Int32) = nI 101 from rfl, show (107 : Int32) = nI 107 from rfl, show (113 : Int32) = nI 113 from rfl, nI_add, nI_add, nI_add, zx_nI (by omega), zx_nI (by omega), zx_nI (by omega), hc.1 (101 + i) (by omega), hc.1 (107 + i) (by omega), hc.1 (113 + i) (by omega)]
          refine ⟨zv_in (by omega) (by decide), zv_in (by omega) (by decide), zv_in (by omega) (by decide), ?_⟩
          refine z_for (n := σ.1 0) (P := fun r => zA G (d + 40) mX12_digest 169 [some (.ref 56), some (.long (dg4 σ.1 i (31 * (31 * (31 * dg5 σ.1 (dga σ) i + (nI (σ.1 (101 + i))).toInt64) + (nI (σ.1 (107 + i))).toInt64) + (nI (σ.1 (113 + i))).toInt64) r)), none, some (.int (nI i)), some (.int (nI r))] [] (zh b I L) _) ?_ ?_ 0 (Nat.zero_le _)
          · exact tX12_digest_169 (d := d + 39) ⟨fun _ => by rw [nI_1]; exact ih, fun q => absurd (by rw [e0]; exact nI_le (Nat.le_refl _) (by omega)) q⟩
          · intro r hr ih2
            refine tX12_digest_169 (d := d + 39) ⟨fun q => absurd q (by rw [e0]; exact nI_ge hr (by omega)), fun _ => ?_⟩
            rw [zlineR, zx_nI (by omega), hc.1 _ (by omega), nI_1]
            exact ⟨zv_in (by omega) (by decide), ih2⟩
      · intro r hr ih
        refine tX12_digest_33 (d := d + 39) ⟨fun q => absurd q (by rw [e0]; exact nI_ge hr (by omega)), fun _ => ?_⟩
        refine z_for (n := σ.1 1) (P := fun l => zA G (d + 40) mX12_digest 46 [some (.ref 56), some (.long (dg2 σ.1 r (dg3 σ.1 (dg1 σ 6) r) l)), none, some (.int (nI r)), some (.int (nI l))] [] (zh b I L) _) ?_ ?_ 0 (Nat.zero_le _)
        · exact tX12_digest_46 (d := d + 39) zR0.w ⟨fun _ => by rw [nI_1]; exact ih, fun q => absurd (by rw [e1]; exact nI_le (Nat.le_refl _) (by omega)) q⟩
        · intro l hl ih2
          have c0 : zca 0 (nI r) (nI l) = nI (5 + (6 * r + l)) := zcaR (a := 0) (by decide) r l
          have c1 : zca 1 (nI r) (nI l) = nI (53 + (6 * r + l)) := zcaR (a := 1) (by decide) r l
          refine tX12_digest_46 (d := d + 39) zR0.w ⟨fun q => absurd q (by rw [e1]; exact nI_ge hl (by omega)), fun _ => ?_⟩
          rw [c0, c1, zx_nI (by omega), zx_nI (by omega), hc.1 _ (by omega), hc.1 _ (by omega), nI_1]
          exact ⟨zv_in (by omega) (by decide), zv_in (by omega) (by decide), ih2⟩
    · intro k hk ih
      refine tX12_digest_6 (d := d + 39) zR0.w ⟨fun q => absurd q (nI_ge (b := 6) hk (by decide)), fun _ => ⟨_, kX12_counted hc (by omega), ?_⟩⟩
      rw [nI_1]; exact ih
/-! type -/
theorem l255 (x : Int64) : (x &&& 255).toInt32 = nI (x.toBitVec.toNat % 256) := by
  have e : x &&& 255 = lN (x.toBitVec.toNat % 256) := by
    apply Int64.toBitVec_inj.mp
    apply BitVec.eq_of_toNat_eq
    rw [Int64.toBitVec_and, BitVec.toNat_and, show (255 : Int64).toBitVec.toNat = 2 ^ 8 - 1 from rfl, Nat.and_two_pow_sub_one_eq_mod]
    show _ = (BitVec.ofNat 64 _).toNat
    rw [BitVec.toNat_ofNat]
    exact (Nat.mod_eq_of_lt (Nat.lt_of_le_of_lt (Nat.mod_le _ _) x.toBitVec.isLt)).symm
  rw [e, lN_i]
def zby (v : Int64) (k : Nat) : Nat := v.toBitVec.toNat / 2 ^ (8 * k) % 256
theorem zby_c (v : Int64) {k : Nat} (hk : k < 8) : (((v.toUInt64 >>> ((8 * nI k).toInt64.toUInt64 &&& Int64.toUInt64 63)).toInt64) &&& 255).toInt32 = nI (zby v k) := by
  rw [l255]
  congr 1
  unfold zby
  congr 1
  have key : ∀ s : UInt64, ∀ m : Nat, s.toNat % 64 = m → ((v.toUInt64 >>> s).toInt64).toBitVec.toNat = v.toBitVec.toNat / 2 ^ m := by
    intro s m hm
    show (v.toUInt64 >>> s).toNat = _
    rw [UInt64.toNat_shiftRight, hm, Nat.shiftRight_eq_div_pow]
    rfl
  rcases (by omega : k = 0 ∨ k = 1 ∨ k = 2 ∨ k = 3 ∨ k = 4 ∨ k = 5 ∨ k = 6 ∨ k = 7) with rfl | rfl | rfl | rfl | rfl | rfl | rfl | rfl <;> exact key _ _ (by decide)
theorem zby_r (v : Int64) {k : Nat} (hk : k < 8) : ((v >>> ((8 * nI k).toInt64 &&& 63)) &&& 255).toInt32 = nI (zby v k) := by
  rw [l255]
  congr 1
  unfold zby
  have key : ∀ s : Int64, ∀ m : Nat, (s.toBitVec.smod 64).toNat = m → (v >>> s).toBitVec.toInt = v.toBitVec.toInt / 2 ^ m := fun s m hm => by
    show (v.toBitVec.sshiftRight (s.toBitVec.smod 64).toNat).toInt = _
    rw [hm, BitVec.toInt_sshiftRight, Int.shiftRight_eq_div_pow]
    rfl
  have cd : ∀ x : BitVec 64, x.toInt = if 2 * x.toNat < 2 ^ 64 then (x.toNat : Int) else (x.toNat : Int) - (2 ^ 64 : Nat) := fun x => BitVec.toInt_eq_toNat_cond x
  have fin : ∀ s : Int64, ∀ m : Nat, (s.toBitVec.smod 64).toNat = 8 * m → m < 8 → (v >>> s).toBitVec.toNat % 256 = v.toBitVec.toNat / 2 ^ (8 * m) % 256 := by
    intro s m hm hm8
    have h := key s _ hm
    have h1 := cd v.toBitVec
    have h2 := cd (v >>> s).toBitVec
    have b1 := v.toBitVec.isLt
    have b2 := (v >>> s).toBitVec.isLt
    generalize (v >>> s).toBitVec.toNat = p at *
    generalize (v >>> s).toBitVec.toInt = q at *
    generalize v.toBitVec.toNat = a at *
    generalize v.toBitVec.toInt = c at *
    rcases (by omega : m = 0 ∨ m = 1 ∨ m = 2 ∨ m = 3 ∨ m = 4 ∨ m = 5 ∨ m = 6 ∨ m = 7) with rfl | rfl | rfl | rfl | rfl | rfl | rfl | rfl <;> (simp only [Nat.reduceMul, Nat.reducePow, Int.reducePow] at *; split at h1 <;> split at h2 <;> omega)
  rcases (by omega : k = 0 ∨ k = 1 ∨ k = 2 ∨ k = 3 ∨ k = 4 ∨ k = 5 ∨ k = 6 ∨ k = 7) with rfl | rfl | rfl | rfl | rfl | rfl | rfl | rfl <;> exact fin _ _ (by decide) (by decide)
/-- a text that has grown -/
def wtx (t : Nat × zW) (v : Int64) (n j : Nat) : Nat × zW := (t.1 + j, fun k => if k < t.1 then t.2 k else zby v (n - 1 - (k - t.1)))
theorem zCl.text {b : Nat} {I J : Nat → Nat → Int32} {L : Nat → Nat → Int64} {σ : zσ} {t : Nat × zW} (h : zCl b I L σ) (hJ : ∀ i, i ≠ 53 → i ≠ 54 → J i = I i) (h1 : J 53 1 = nI t.1) (h2 : ∀ k, k < t.1 → J 54 k = nI (t.2 k)) : zCl b J L (σ.1, t, σ.2.2) := by
  obtain ⟨a1, a2, a3, a4, a5, a6, a7⟩ := h
  have hb : b ≤ 10 := by rcases a1 with rfl | rfl <;> omega
  refine ⟨a1, a2.congr (fun k hk => hJ (b + k) (by omega) (by omega)), ⟨h1, h2⟩, a4, ?_, a6.congr (fun k hk => hJ (19 + k) (by omega) (by omega)), a7.congr (fun k hk => hJ (28 + k) (by omega) (by omega))⟩
  rw [hJ 0 (by decide) (by decide)]; exact a5
theorem zRf.text {I J : Nat → Nat → Int32} {L : Nat → Nat → Int64} {σ : zσ} {t : Nat × zW} (h : zRf I L σ) (hJ : ∀ i, i ≠ 56 → i ≠ 61 → J i = I i) (h1 : J 56 5 = nI t.1) (h2 : ∀ k, k < t.1 → J 61 k = nI (t.2 k)) : zRf J L (σ.1, t, σ.2.2) := by
  obtain ⟨a1, a2, a3, a4, a5, a6⟩ := h
  unfold zRf
  rw [hJ 57 (by decide) (by decide), hJ 62 (by decide) (by decide), hJ 60 (by decide) (by decide), hJ 59 (by decide) (by decide)]
  exact ⟨a1, ⟨h1, h2⟩, a3, a4, a5, a6⟩
theorem nIneg {k : Nat} (h : k < 2 ^ 31) : ¬ nI k < 0 := by
  rw [Int32.lt_iff_toInt_lt, nI_toInt h, show (0 : Int32).toInt = 0 from rfl]
  omega
theorem nIm1' {n : Nat} : nI n - 1 = nI n + (-1) := Int32.sub_eq_add_neg _ _
theorem p_type (x1 : Int64) (x3 : Int32) : zPair mX11_type mX12_type [.long x1, .int x3] := by
  refine zPair.of fun σ hi => ?_
  have e3 : (1 ≤ x3 ∧ x3 ≤ 8) ↔ zin x3 1 8 := zin_c (lo := 1) (hi := 8) (by decide) (by decide)
  have r3 : (1 ≤ x3.toInt64 ∧ x3.toInt64 ≤ 8) ↔ zin x3 1 8 := zin_r (lo := 1) (hi := 8) (by decide) (by decide)
  obtain ⟨ht1, ht2⟩ := hi.2.1
  by_cases hv : zin x3 1 8
  · obtain ⟨n, hn1, hn8, rfl⟩ := hv.nat (by decide)
    have c0 : ∀ x : Int32, x = nI σ.2.1.1 → (x + nI n ≤ 250 ↔ σ.2.1.1 + n ≤ 250) := fun x hx => by rw [hx, nI_add]; exact nI_leI (b := 250) (by omega) (by decide)
    by_cases hf : σ.2.1.1 + n ≤ 250
    · refine ⟨.int (nI (σ.2.1.1 + n)), (σ.1, wtx σ.2.1 x1 n n, σ.2.2), fun d b I L hc => ?_, fun d b I L hc => ?_, ⟨hi.1, ⟨hf, fun k hk => ?_⟩, hi.2.2⟩, Or.inl ⟨rfl, _, rfl⟩⟩
      · have loop : ∀ m, m ≤ n → ∀ J, (∀ i, i ≠ 53 → i ≠ 54 → J i = I i) → J 53 1 = nI (σ.2.1.1 + (n - m)) → (∀ k, k < σ.2.1.1 + (n - m) → J 54 k = nI ((wtx σ.2.1 x1 n n).2 k)) → ∃ J', (∀ i, i ≠ 53 → i ≠ 54 → J' i = I i) ∧ J' 53 1 = nI (σ.2.1.1 + n) ∧ (∀ k, k < σ.2.1.1 + n → J' 54 k = nI ((wtx σ.2.1 x1 n n).2 k)) ∧ ∀ G, zA G (d + 39) mX7_append 5 [some (.ref 53), some (.long x1), none, some (.int (nI n)), some (.int (nI m + (-1)))] [] (zh b J L) (none, zh b J' L) := by
          intro m
          induction m with
          | zero =>
            intro _ J h1 h2 h3
            exact ⟨J, h1, h2, h3, fun G => tX7_append_5 ⟨fun _ => rfl, fun q => absurd (by decide) q⟩⟩
          | succ m ih =>
            intro hm J h1 h2 h3
            obtain ⟨J', g1, g2, g3, g4⟩ := ih (by omega) (zup (zup J 54 (σ.2.1.1 + (n - (m + 1))) (nI (zby x1 m))) 53 1 (nI (σ.2.1.1 + (n - m)))) (fun i i1 i2 => by rw [zup_ne i1, zup_ne i2]; exact h1 i i1 i2) (by simp [zup]) (fun k hk => by
              rw [zup_ne (by decide)]
              simp only [zup]
              by_cases z : k = σ.2.1.1 + (n - (m + 1))
              · subst z
                rw [if_pos ⟨trivial, rfl⟩]
                show _ = nI (if σ.2.1.1 + (n - (m + 1)) < σ.2.1.1 then _ else zby x1 (n - 1 - (σ.2.1.1 + (n - (m + 1)) - σ.2.1.1)))
                rw [if_neg (by omega), show n - 1 - (σ.2.1.1 + (n - (m + 1)) - σ.2.1.1) = m by omega]
              · rw [if_neg (fun q => z q.2)]
                exact h3 k (by omega))
            refine ⟨J', g1, g2, g3, fun G => ?_⟩
            rw [nIm1]
            refine tX7_append_5 ⟨fun q => absurd q (nIneg (by omega)), fun _ => ⟨fun q => absurd q (by rw [h2]; exact nI_ge (b := 250) (by omega) (by decide)), fun _ => ?_⟩⟩
            rw [h2, zby_c x1 (by omega), zx_nI (by omega)]
            refine ⟨zv_in (by omega) (by decide), ?_⟩
            rintro I4 rfl
            rw [zup_ne (a := 53) (by decide), h2, nI_1, show σ.2.1.1 + (n - (m + 1)) + 1 = σ.2.1.1 + (n - m) by omega]
            exact g4 G
        obtain ⟨J', g1, g2, g3, g4⟩ := loop n (Nat.le_refl _) I (fun _ _ _ => rfl) (by rw [Nat.sub_self]; exact hc.2.2.1.1) (fun k hk => by
          rw [Nat.sub_self, Nat.add_zero] at hk
          rw [hc.2.2.1.2 k hk]
          show _ = nI (if k < σ.2.1.1 then _ else _)
          rw [if_pos hk])
        refine ⟨b, J', L, zCall.of okX11_type (Nat.le_of_ble_eq_true rfl) ⟨Nat.le_refl _, Nat.le_refl _⟩ (fun G => tX11_type_0 (d := d + 39) zR0.w ⟨fun _ => ⟨fun _ => ⟨J', zCall.of okX7_append (Nat.le_of_ble_eq_true rfl) ⟨Nat.le_refl _, Nat.le_refl _⟩ (fun G => tX7_append_0 (by rw [nIm1']; exact g4 G)), by rw [g2]⟩, fun q => absurd ((c0 _ hc.2.2.1.1).mpr hf) q⟩, fun q => absurd (e3.mpr hv) q⟩), hc.text g1 g2 g3, fun i hi' => g1 i (by omega) (by omega), zhiL.rf⟩
      · have loop : ∀ m, m ≤ n → ∀ J, (∀ i, i ≠ 56 → i ≠ 61 → J i = I i) → J 56 5 = nI (σ.2.1.1 + (n - m)) → (∀ k, k < σ.2.1.1 + (n - m) → J 61 k = nI ((wtx σ.2.1 x1 n n).2 k)) → ∃ J', (∀ i, i ≠ 56 → i ≠ 61 → J' i = I i) ∧ J' 56 5 = nI (σ.2.1.1 + n) ∧ (∀ k, k < σ.2.1.1 + n → J' 61 k = nI ((wtx σ.2.1 x1 n n).2 k)) ∧ ∀ G, zA G (d + 40) mX12_type 43 [some (.ref 56), some (.long x1), none, some (.int (nI n)), some (.int (nI m + (-1)))] [] (zh b J L) (some (.int (nI (σ.2.1.1 + n))), zh b J' L) := by
          intro m
          induction m with
          | zero =>
            intro _ J h1 h2 h3
            exact ⟨J, h1, h2, h3, fun G => tX12_type_43 (d := d + 39) ⟨fun _ => by rw [h2]; rfl, fun q => absurd (by decide) q⟩⟩
          | succ m ih =>
            intro hm J h1 h2 h3
            obtain ⟨J', g1, g2, g3, g4⟩ := ih (by omega) (zup (zup J 61 (σ.2.1.1 + (n - (m + 1))) (nI (zby x1 m))) 56 5 (nI (σ.2.1.1 + (n - m)))) (fun i i1 i2 => by rw [zup_ne i1, zup_ne i2]; exact h1 i i1 i2) (by simp [zup]) (fun k hk => by
              rw [zup_ne (by decide)]
              simp only [zup]
              by_cases z : k = σ.2.1.1 + (n - (m + 1))
              · subst z
                rw [if_pos ⟨trivial, rfl⟩]
                show _ = nI (if σ.2.1.1 + (n - (m + 1)) < σ.2.1.1 then _ else zby x1 (n - 1 - (σ.2.1.1 + (n - (m + 1)) - σ.2.1.1)))
                rw [if_neg (by omega), show n - 1 - (σ.2.1.1 + (n - (m + 1)) - σ.2.1.1) = m by omega]
              · rw [if_neg (fun q => z q.2)]
                exact h3 k (by omega))
            refine ⟨J', g1, g2, g3, fun G => ?_⟩
            rw [nIm1]
            refine tX12_type_43 (d := d + 39) ⟨fun q => absurd q (nIneg (by omega)), fun _ => ?_⟩
            rw [h2, zby_r x1 (by omega), zx_nI (by omega)]
            refine ⟨zv_in (by omega) (by decide), ?_⟩
            rintro I4 rfl
            rw [zup_ne (a := 56) (by decide), h2, nI_1, show σ.2.1.1 + (n - (m + 1)) + 1 = σ.2.1.1 + (n - m) by omega]
            exact g4 G
        obtain ⟨J', g1, g2, g3, g4⟩ := loop n (Nat.le_refl _) I (fun _ _ _ => rfl) (by rw [Nat.sub_self]; exact hc.2.1.1) (fun k hk => by
          rw [Nat.sub_self, Nat.add_zero] at hk
          rw [hc.2.1.2 k hk]
          show _ = nI (if k < σ.2.1.1 then _ else _)
          rw [if_pos hk])
        refine ⟨J', L, zCall.of okX12_type (Nat.le_of_ble_eq_true rfl) ⟨Nat.le_refl _, Nat.le_refl _⟩ (fun G => tX12_type_0 (d := d + 39) zR0.w ⟨fun _ => ⟨fun _ => by rw [nIm1']; exact g4 G, fun q => absurd ((c0 _ hc.2.1.1).mpr hf) q⟩, fun q => absurd (r3.mpr hv) q⟩), hc.text g1 g2 g3, fun i hi' => g1 i (by omega) (by omega), zloL.rf⟩
      · show (if k < σ.2.1.1 then σ.2.1.2 k else zby x1 (n - 1 - (k - σ.2.1.1))) < 256
        by_cases z : k < σ.2.1.1
        · rw [if_pos z]; exact ht2 k z
        · rw [if_neg z]; exact Nat.mod_lt _ (by decide)
    · refine ⟨.int (-4), sFull σ, sc_full fun d b I L hc => ?_, sr_full fun d b I L hc => ?_, hi, Or.inl ⟨rfl, _, rfl⟩⟩
      · exact zCall.of okX11_type (Nat.le_of_ble_eq_true rfl) ⟨Nat.le_refl _, Nat.le_refl _⟩ (fun G => tX11_type_0 (d := d + 39) zR0.w ⟨fun _ => ⟨fun q => absurd ((c0 _ hc.2.2.1.1).mp q) hf, fun _ => xFull⟩, fun q => absurd (e3.mpr hv) q⟩)
      · exact zCall.of okX12_type (Nat.le_of_ble_eq_true rfl) ⟨Nat.le_refl _, Nat.le_refl _⟩ (fun G => tX12_type_0 (d := d + 39) zR0.w ⟨fun _ => ⟨fun q => absurd ((c0 _ hc.2.1.1).mp q) hf, fun _ => yFull⟩, fun q => absurd (r3.mpr hv) q⟩)
  · refine ⟨.int (-2), sBad σ, sc_bad fun d b I L hc => ?_, sr_bad fun d b I L hc => ?_, hi, Or.inl ⟨rfl, _, rfl⟩⟩
    · exact zCall.of okX11_type (Nat.le_of_ble_eq_true rfl) ⟨Nat.le_refl _, Nat.le_refl _⟩ (fun G => tX11_type_0 (d := d + 39) zR0.w ⟨fun q => absurd (e3.mp q) hv, fun _ => xBad _⟩)
    · exact zCall.of okX12_type (Nat.le_of_ble_eq_true rfl) ⟨Nat.le_refl _, Nat.le_refl _⟩ (fun G => tX12_type_0 (d := d + 39) zR0.w ⟨fun q => absurd (r3.mp q) hv, fun _ => yBad⟩)
/-! drawn -/
def lcg (x : Int64) : Int64 := zremL ((x * 1103515245) + 12345) 2147483648
def lhit (x : Int64) (p : Nat) : Bool := decide (¬ 0 ≤ lg_cmp (zremL (x / 65536) 40) ((nI p).toInt64))
def nbit (s i : Nat) : Bool := decide (((nI s >>> (nI i &&& 31)) &&& 1) = 1)
theorem nxor6 : ∀ s, s < 64 → ∀ i, i < 6 → nI s ^^^ ((1 : Int32) <<< (nI i &&& 31)) = nI (s ^^^ 2 ^ i) ∧ s ^^^ 2 ^ i < 64 ∧ (nbit s i = true → nI s &&& (((1 : Int32) <<< (nI i &&& 31)) ^^^ (-1)) = nI (s ^^^ 2 ^ i)) ∧ nI s &&& (-1) = nI s := by decide +kernel
def wdr (w : zW) (i : Nat) : Nat → Nat → Int64 × Nat → Int64 × Nat
  | 0, _, q => q
  | f + 1, r, q => if nbit q.2 i = true then wdr w i f (r + 1) (lcg q.1, if lhit (lcg q.1) (vP w i 9 (r + 1)) = true then q.2 ^^^ 2 ^ i else q.2) else q
def wdi (w : zW) (q : Int64 × Nat) : Nat → Int64 × Nat
  | 0 => q
  | i + 1 => wdr w i (w 0) 0 (wdi w q i)
def wda (w : zW) (x : Int64) : Nat → Int64 × Nat
  | 0 => (x, 2 ^ w 2 - 1)
  | k + 1 => wdi w (wda w x k) (w 2)
theorem wdr_lt {w : zW} {i : Nat} (hi : i < 6) : ∀ f r q, q.2 < 64 → (wdr w i f r q).2 < 64 := by
  intro f
  induction f with
  | zero => intro r q h; exact h
  | succ f ih =>
    intro r q h
    simp only [wdr]
    split
    · refine ih _ _ ?_
      show (if _ then _ else _) < 64
      split
      · exact (nxor6 _ h _ hi).2.1
      · exact h
    · exact h
theorem wdi_lt {w : zW} {q : Int64 × Nat} (h : q.2 < 64) : ∀ i, i ≤ 6 → (wdi w q i).2 < 64 := by
  intro i
  induction i with
  | zero => intro _; exact h
  | succ i ih => intro hi; exact wdr_lt (by omega) _ _ _ (ih (by omega))
theorem wda_lt {w : zW} {x : Int64} (h : w 2 ≤ 6) : ∀ k, (wda w x k).2 < 64 := by
  intro k
  induction k with
  | zero =>
    have b2 : 2 ^ (w 2) ≤ 64 := Nat.pow_le_pow_right (n := 2) (by decide) h
    show 2 ^ w 2 - 1 < 64
    omega
  | succ k ih => exact wdi_lt ih _ h
theorem p_drawn (x1 x2 : Int32) : zPair mX11_drawn mX12_drawn [.int x1, .int x2] := by
  refine zPair.of fun σ hi => ?_
  obtain ⟨⟨hw0, hw1, hw2, hw3, hw4⟩, -⟩ := id hi.1
  have e1 : (0 ≤ x1 ∧ x1 ≤ 999999) ↔ zin x1 0 999999 := zin_c (lo := 0) (hi := 999999) (by decide) (by decide)
  have r1 : (0 ≤ x1.toInt64 ∧ x1.toInt64 ≤ 999999) ↔ zin x1 0 999999 := zin_r (lo := 0) (hi := 999999) (by decide) (by decide)
  have e3 : (0 ≤ x2 ∧ x2 ≤ 9) ↔ zin x2 0 9 := zin_c (lo := 0) (hi := 9) (by decide) (by decide)
  have r3 : (0 ≤ x2.toInt64 ∧ x2.toInt64 ≤ 9) ↔ zin x2 0 9 := zin_r (lo := 0) (hi := 9) (by decide) (by decide)
  by_cases hv : zin x1 0 999999 ∧ zin x2 0 9
  · obtain ⟨n, -, hn, rfl⟩ := hv.2.nat (by decide)
    have b0 : 1 ≤ 2 ^ (σ.1 2) := Nat.pow_pos (by decide)
    have e : nI (2 ^ σ.1 2) - 1 = nI (2 ^ σ.1 2 - 1) := pk_sub (b := 1) b0
    have ha := wda_lt (w := σ.1) (x := x1.toInt64) hw2
    refine ⟨.int (nI (npc (wda σ.1 x1.toInt64 n).2)), σ, fun d b I L hc => ?_, fun d b I L hc => ?_, hi, Or.inl ⟨rfl, _, rfl⟩⟩
    · obtain ⟨J, h1, h2, h3⟩ := kX10_followAll (d := d + 34) (b := b) (L := L) hc.1.hl hi.1 hc.2.1
      have hc' := hc.w47 h1
      refine ⟨b, J, L, ?_, hc', h1.hi, zhiL.rf⟩
      have j2 : J b 2 = nI (σ.1 2) := hc'.2.1.1.2.2.1
      have j0 : J b 0 = nI (σ.1 0) := hc'.2.1.1.1
      refine zCall.of okX11_drawn (Nat.le_of_ble_eq_true rfl) ⟨Nat.le_refl _, Nat.le_refl _⟩ (fun G => tX11_drawn_0 (d := d + 34) hc.1 zR0.w ⟨fun q => absurd (e1.mpr hv.1) q, fun _ => ⟨fun _ => ⟨_, h3, ?_⟩, fun q => absurd (e3.mpr hv.2) q⟩⟩)
      rw [j2, shl1 (by omega), e]
      refine z_for (n := n) (P := fun k => zA G (d + 40) mX11_drawn 62 [some (.ref 0), some (.int x1), some (.int (nI n)), some (.long (wda σ.1 x1.toInt64 k).1), none, some (.int (nI (wda σ.1 x1.toInt64 k).2)), some (.int (nI k)), none, none] [] (zh b J L) _) ?_ ?_ 0 (Nat.zero_le _)
      · exact tX11_drawn_62 (d := d + 34) zR0.w ⟨fun _ => ⟨_, kJ6_bitCount (ha n), rfl⟩, fun q => absurd (nI_le (Nat.le_refl _) (by omega)) q⟩
      · intro k hk ih
        refine tX11_drawn_62 (d := d + 34) zR0.w ⟨fun q => absurd q (nI_ge hk (by omega)), fun _ => ?_⟩
        have hd := wdi_lt (w := σ.1) (ha k)
        refine z_for (n := σ.1 2) (P := fun i => zA G (d + 40) mX11_drawn 71 [some (.ref 0), some (.int x1), some (.int (nI n)), some (.long (wdi σ.1 (wda σ.1 x1.toInt64 k) i).1), none, some (.int (nI (wdi σ.1 (wda σ.1 x1.toInt64 k) i).2)), some (.int (nI k)), some (.int (nI i)), none] [] (zh b J L) _) ?_ ?_ 0 (Nat.zero_le _)
        · exact tX11_drawn_71 (d := d + 34) hc.1 ⟨fun _ => by rw [nI_1]; exact ih, fun q => absurd (by rw [j2]; exact nI_le (Nat.le_refl _) (by omega)) q⟩
        · intro i hil ih2
          refine tX11_drawn_71 (d := d + 34) hc.1 ⟨fun q => absurd q (by rw [j2]; exact nI_ge hil (by omega)), fun _ => ?_⟩
          refine z_for (n := σ.1 0) (P := fun r => ∀ q : Int64 × Nat, q.2 < 64 → wdr σ.1 i (σ.1 0 - r) r q = wdi σ.1 (wda σ.1 x1.toInt64 k) (i + 1) → zA G (d + 40) mX11_drawn 86 [some (.ref 0), some (.int x1), some (.int (nI n)), some (.long q.1), none, some (.int (nI q.2)), some (.int (nI k)), some (.int (nI i)), some (.int (nI r))] [] (zh b J L) _) ?_ ?_ 0 (Nat.zero_le _) (wdi σ.1 (wda σ.1 x1.toInt64 k) i) (hd i (by omega)) rfl
          · intro q hq he
            rw [Nat.sub_self] at he
            have he : q = wdi σ.1 (wda σ.1 x1.toInt64 k) (i + 1) := he
            subst he
            exact tX11_drawn_86 (d := d + 34) hc.1 zR0.w ⟨fun _ => by rw [nI_1]; exact ih2, fun q => absurd (by rw [j0]; exact nI_le (Nat.le_refl _) (by omega)) q⟩
          · intro r hr ih3 q hq he
            rw [show σ.1 0 - r = (σ.1 0 - (r + 1)) + 1 by omega] at he
            simp only [wdr] at he
            obtain ⟨b1, b2, b3, b4⟩ := nxor6 q.2 hq i (by omega)
            refine tX11_drawn_86 (d := d + 34) hc.1 zR0.w ⟨fun q => absurd q (by rw [j0]; exact nI_ge hr (by omega)), fun _ => ⟨fun z => ?_, fun z => ?_⟩⟩
            · rw [if_neg (by rw [show nbit q.2 i = false from decide_eq_false z]; decide)] at he
              subst he
              rw [nI_1]; exact ih2
            · rw [if_pos (show nbit q.2 i = true from decide_eq_true z)] at he
              rw [zwayC, zx_nI (by omega), (h2 i hil).2.1 r hr, b1, nI_1]
              refine ⟨zv_in (by omega) (by decide), fun y => ?_, fun y => ?_⟩
              · have hl : lhit (lcg q.1) (vP σ.1 i 9 (r + 1)) = false := decide_eq_false (fun z => z y)
                rw [hl, if_neg (by decide)] at he
                exact ih3 (lcg q.1, q.2) hq he
              · have hl : lhit (lcg q.1) (vP σ.1 i 9 (r + 1)) = true := decide_eq_true y
                rw [hl, if_pos rfl] at he
                exact ih3 (lcg q.1, q.2 ^^^ 2 ^ i) b2 he
    · have key := z_for (n := n) (P := fun k => ∀ J, z63 I J → ∃ J', z63 I J' ∧ ∀ G, zA G (d + 40) mX12_drawn 49 [some (.ref 56), some (.int x1), some (.int (nI n)), some (.long (wda σ.1 x1.toInt64 k).1), none, some (.int (nI (wda σ.1 x1.toInt64 k).2)), some (.int (nI k)), none, none] [] (zh b J L) (some (.int (nI (npc (wda σ.1 x1.toInt64 n).2))), zh b J' L)) ?_ ?_ 0 (Nat.zero_le _)
      · obtain ⟨J', h1, h2⟩ := key I z63.rf
        refine ⟨J', L, zCall.of okX12_drawn (Nat.le_of_ble_eq_true rfl) ⟨Nat.le_refl _, Nat.le_refl _⟩ (fun G => tX12_drawn_0 (d := d + 36) zR0.w ⟨fun q => absurd (r1.mpr hv.1) q, fun _ => ⟨fun _ => ?_, fun q => absurd (r3.mpr hv.2) q⟩⟩), hc.w63 h1, h1.lo, zloL.rf⟩
        rw [hc.1 2 (by decide), shl1 (by omega), e]
        exact h2 G
      · intro J hJ
        exact ⟨J, hJ, fun G => tX12_drawn_49 (d := d + 36) zR0.w ⟨fun _ => ⟨_, kX12_bits (ha n), rfl⟩, fun q => absurd (nI_le (Nat.le_refl _) (by omega)) q⟩⟩
      · intro k hk ih J hJ
        have hd := wdi_lt (w := σ.1) (ha k)
        have inner := z_for (n := σ.1 2) (P := fun i => ∀ J, z63 I J → ∃ J', z63 I J' ∧ ∀ G, zA G (d + 40) mX12_drawn 58 [some (.ref 56), some (.int x1), some (.int (nI n)), some (.long (wdi σ.1 (wda σ.1 x1.toInt64 k) i).1), none, some (.int (nI (wdi σ.1 (wda σ.1 x1.toInt64 k) i).2)), some (.int (nI k)), some (.int (nI i)), none] [] (zh b J L) (some (.int (nI (npc (wda σ.1 x1.toInt64 n).2))), zh b J' L)) ?_ ?_ 0 (Nat.zero_le _)
        · obtain ⟨J', h1, h2⟩ := inner J hJ
          exact ⟨J', h1, fun G => tX12_drawn_49 (d := d + 36) zR0.w ⟨fun q => absurd q (nI_ge hk (by omega)), fun _ => h2 G⟩⟩
        · intro J hJ
          have j2 : J 57 2 = nI (σ.1 2) := hJ.now hc.1 2 (by decide)
          obtain ⟨J', h1, h2⟩ := ih J hJ
          exact ⟨J', h1, fun G => tX12_drawn_58 (d := d + 36) zR0.w ⟨fun _ => by rw [nI_1]; exact h2 G, fun q => absurd (by rw [j2]; exact nI_le (Nat.le_refl _) (by omega)) q⟩⟩
        · intro i hil ih2 J hJ
          have j2 : J 57 2 = nI (σ.1 2) := hJ.now hc.1 2 (by decide)
          have j0 : zwk J σ.1 i 9 (σ.1 0) 57 0 = nI (σ.1 0) := by rw [zwk_ne (by omega)]; exact hJ.now hc.1 0 (by decide)
          obtain ⟨J', h1, h2⟩ := ih2 (zwk J σ.1 i 9 (σ.1 0)) hJ.wk
          refine ⟨J', h1, fun G => tX12_drawn_58 (d := d + 36) zR0.w ⟨fun q => absurd q (by rw [j2]; exact nI_ge hil (by omega)), fun _ => ⟨_, kX12_walks (d := d + 36) hi.1 (hJ.now hc.1) hil, ?_⟩⟩⟩
          refine z_for (n := σ.1 0) (P := fun r => ∀ q : Int64 × Nat, q.2 < 64 → wdr σ.1 i (σ.1 0 - r) r q = wdi σ.1 (wda σ.1 x1.toInt64 k) (i + 1) → zA G (d + 40) mX12_drawn 78 [some (.ref 56), some (.int x1), some (.int (nI n)), some (.long q.1), none, some (.int (nI q.2)), some (.int (nI k)), some (.int (nI i)), some (.int (nI r))] [] (zh b (zwk J σ.1 i 9 (σ.1 0)) L) _) ?_ ?_ 0 (Nat.zero_le _) (wdi σ.1 (wda σ.1 x1.toInt64 k) i) (hd i (by omega)) rfl
          · intro q hq he
            rw [Nat.sub_self] at he
            have he : q = wdi σ.1 (wda σ.1 x1.toInt64 k) (i + 1) := he
            subst he
            exact tX12_drawn_78 (d := d + 36) ⟨fun _ => by rw [nI_1]; exact h2 G, fun q => absurd (by rw [j0]; exact nI_le (Nat.le_refl _) (by omega)) q⟩
          · intro r hr ih3 q hq he
            rw [show σ.1 0 - r = (σ.1 0 - (r + 1)) + 1 by omega] at he
            simp only [wdr] at he
            obtain ⟨b1, b2, b3, b4⟩ := nxor6 q.2 hq i (by omega)
            refine tX12_drawn_78 (d := d + 36) ⟨fun q => absurd q (by rw [j0]; exact nI_ge hr (by omega)), fun _ => ⟨fun z => ?_, fun z => ?_⟩⟩
            · rw [if_neg (by rw [show nbit q.2 i = false from decide_eq_false z]; decide)] at he
              subst he
              rw [nI_1]; exact h2 G
            · have hbt : nbit q.2 i = true := decide_eq_true z
              rw [if_pos hbt] at he
              rw [zx_nI (by omega), zwk_64 hr, b3 hbt, b4, nI_1]
              refine ⟨zv_in (by omega) (by decide), fun y => ?_, fun y => ?_⟩
              · have hl : lhit (lcg q.1) (vP σ.1 i 9 (r + 1)) = false := decide_eq_false (fun z => z y)
                rw [hl, if_neg (by decide)] at he
                exact ih3 (lcg q.1, q.2) hq he
              · have hl : lhit (lcg q.1) (vP σ.1 i 9 (r + 1)) = true := decide_eq_true y
                rw [hl, if_pos rfl] at he
                exact ih3 (lcg q.1, q.2 ^^^ 2 ^ i) b2 he
  · refine ⟨.int (-2), sBad σ, sc_bad fun d b I L hc => ?_, sr_bad fun d b I L hc => ?_, hi, Or.inl ⟨rfl, _, rfl⟩⟩
    · exact zCall.of okX11_drawn (Nat.le_of_ble_eq_true rfl) ⟨Nat.le_refl _, Nat.le_refl _⟩ (fun G => tX11_drawn_0 (d := d + 34) hc.1 zR0.w ⟨fun _ => xBad _, fun q1 => ⟨fun q3 => absurd ⟨e1.mp q1, e3.mp q3⟩ hv, fun _ => xBad _⟩⟩)
    · exact zCall.of okX12_drawn (Nat.le_of_ble_eq_true rfl) ⟨Nat.le_refl _, Nat.le_refl _⟩ (fun G => tX12_drawn_0 (d := d + 36) zR0.w ⟨fun _ => yBad, fun q1 => ⟨fun q3 => absurd ⟨r1.mp q1, r3.mp q3⟩ hv, fun _ => yBad⟩⟩)
