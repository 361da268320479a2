/-! pairs: undo, image, from -/
section BEC
variable {d b : Nat} {I : Nat → Nat → Int32} {L : Nat → Nat → Int64}
def zb1 (I : Nat → Nat → Int32) (q o k : Nat) : Nat → Nat → Int32 := zup I q k (I o k)
def zbs (J : Nat → Nat → Int32) (q o m : Nat) (n : Int32) : Nat → Nat → Int32 := zrow J (q + m) (va_cpy (J (o + m)) (J (q + m)) (zx 0) (zx 0) (zx n))
def zbec (I : Nat → Nat → Int32) (q o : Nat) : Nat → Nat → Int32 :=
  zbs (zbs (zbs (zbs (zbs (zbs (zbs (zbs (zb1 (zb1 (zb1 (zb1 (zb1 I q o 0) q o 1) q o 2) q o 3) q o 4) q o 1 48) q o 2 48) q o 3 6) q o 4 6) q o 5 6) q o 6 48) q o 7 8) q o 8 288
theorem kX4_becomeLike {q o : Nat} (hq : zhl q) (ho : zhl o) : zCall (d + 1) mX4_becomeLike [.ref q, .ref o] (zh b I L) (none, zh b (zbec I q o) L) := by
  refine zCall.of okX4_becomeLike (Nat.le_of_ble_eq_true rfl) ⟨Nat.le_refl _, Nat.le_refl _⟩ (fun G => tX4_becomeLike_0 ho hq ?_)
  rintro I1 rfl I2 rfl I3 rfl I4 rfl I5 rfl
  refine ⟨by decide, ?_⟩
  rintro I7 rfl
  refine ⟨by decide, ?_⟩
  rintro I9 rfl
  refine ⟨by decide, ?_⟩
  rintro I11 rfl
  refine ⟨by decide, ?_⟩
  rintro I13 rfl
  refine ⟨by decide, ?_⟩
  rintro I15 rfl
  refine ⟨by decide, ?_⟩
  rintro I17 rfl
  refine ⟨by decide, ?_⟩
  rintro I19 rfl
  exact ⟨by decide, rfl⟩
def zlen (j : Nat) : Nat := if j = 3 ∨ j = 4 ∨ j = 5 then 6 else if j = 7 then 8 else if j = 8 then 288 else 48
/-- how far the copying is: m rows -/
def zDn (I J : Nat → Nat → Int32) (q o m : Nat) : Prop := (∀ k, k ≤ 4 → J q k = I o k) ∧ (∀ j, 1 ≤ j → j ≤ m → ∀ k, k < zlen j → J (q + j) k = I (o + j) k) ∧ ∀ i, (i < q ∨ q + m < i) → J i = I i
theorem zDn.step {J : Nat → Nat → Int32} {q o m : Nat} {n : Int32} (h : zDn I J q o m) (hqo : q + 8 < o ∨ o + 8 < q) (hm : m + 1 ≤ 8) (hn : zx n = zlen (m + 1)) : zDn I (zbs J q o (m + 1) n) q o (m + 1) := by
  obtain ⟨h1, h2, h3⟩ := h
  unfold zbs
  refine ⟨fun k hk => by rw [zrow_ne (by omega)]; exact h1 k hk, fun j hj1 hj2 k hk => ?_, fun i hi => by rw [zrow_ne (by omega)]; exact h3 i (by omega)⟩
  by_cases q2 : j = m + 1
  · subst q2
    rw [zrow_self, pk_cpy_in (by show 0 ≤ k; omega) (by show k < 0 + zx n; omega), h3 (o + (m + 1)) (by omega)]
    show I (o + (m + 1)) (0 + (k - 0)) = _
    rw [Nat.zero_add, Nat.sub_zero]
  · rw [zrow_ne (by omega)]
    exact h2 j hj1 (by omega) k hk
theorem zbec_dn {q o : Nat} (hqo : q + 8 < o ∨ o + 8 < q) : zDn I (zbec I q o) q o 8 := by
  have h0 : zDn I (zb1 (zb1 (zb1 (zb1 (zb1 I q o 0) q o 1) q o 2) q o 3) q o 4) q o 0 := by
    have hne : o ≠ q := by omega
    refine ⟨fun k hk => ?_, fun j h1 h2 => absurd h2 (by omega), fun i hi => ?_⟩
    · rcases (by omega : k = 0 ∨ k = 1 ∨ k = 2 ∨ k = 3 ∨ k = 4) with rfl | rfl | rfl | rfl | rfl <;> simp [zb1, zup, hne]
    · simp only [zb1]
      rw [zup_ne (by omega), zup_ne (by omega), zup_ne (by omega), zup_ne (by omega), zup_ne (by omega)]
  exact (((((((h0.step (m := 0) (n := 48) hqo (by omega) (by decide)).step (n := 48) hqo (by omega) (by decide)).step (n := 6) hqo (by omega) (by decide)).step (n := 6) hqo (by omega) (by decide)).step (n := 6) hqo (by omega) (by decide)).step (n := 48) hqo (by omega) (by decide)).step (n := 8) hqo (by omega) (by decide)).step (n := 288) hqo (by omega) (by decide)
theorem zbec_hr {q o : Nat} {w : zW} (hqo : q + 8 < o ∨ o + 8 < q) (hi : winv w) (h : hr (zat I o) w) : hr (zat (zbec I q o) q) w := by
  obtain ⟨d1, d2, -⟩ := zbec_dn (I := I) hqo
  obtain ⟨⟨a0, a1, a2, a3, a4⟩, a5, a6, a7, a8, a9⟩ := h
  obtain ⟨⟨-, -, w2, w3, w4⟩, -⟩ := hi
  refine ⟨⟨(d1 0 (by omega)).trans a0, (d1 1 (by omega)).trans a1, (d1 2 (by omega)).trans a2, (d1 3 (by omega)).trans a3, (d1 4 (by omega)).trans a4⟩, fun c hc => (d2 1 (by omega) (by omega) c hc).trans (a5 c hc), fun c hc => (d2 2 (by omega) (by omega) c hc).trans (a6 c hc), fun i hi => ?_, fun k hk => (d2 7 (by omega) (by omega) k (by show k < 8; omega)).trans (a8 k hk), fun k hk => (d2 8 (by omega) (by omega) k (by show k < 288; omega)).trans (a9 k hk)⟩
  obtain ⟨b1, b2, b3, b4⟩ := a7 i hi
  exact ⟨(d2 3 (by omega) (by omega) i (by show i < 6; omega)).trans b1, (d2 4 (by omega) (by omega) i (by show i < 6; omega)).trans b2, (d2 5 (by omega) (by omega) i (by show i < 6; omega)).trans b3, fun r hr => (d2 6 (by omega) (by omega) (8 * i + r) (by show 8 * i + r < 48; omega)).trans (b4 r hr)⟩
/-- the reference's copy -/
def zcp (I : Nat → Nat → Int32) (a c x y n : Nat) : Nat → Nat → Int32 := fun i k => if i = c ∧ y ≤ k ∧ k < y + n then I a (x + (k - y)) else I i k
theorem zcp_ne {a c x y n i : Nat} (h : i ≠ c) : zcp I a c x y n i = I i := by
  funext k
  simp [zcp, h]
theorem kX12_copy {a c n m x y : Nat} (ha : zsh a = (100, n)) (la : a < 74) (hc : zsh c = (100, m)) (lc : c < 74) (hac : a ≠ c) (hx : x + 463 ≤ n) (hy : y + 463 ≤ m) (hn : n < 2000 ∧ m < 2000) : zCall d mX12_copy [.ref a, .int (nI x), .ref c, .int (nI y)] (zh b I L) (none, zh b (zcp I a c x y 463) L) := by
  refine zCall.of okX12_copy (Nat.le_of_ble_eq_true rfl) ⟨Nat.le_refl _, Nat.le_refl _⟩ (fun G => tX12_copy_0 ha la hc lc ?_)
  have h0 : zcp I a c x y 0 = I := by
    funext i k
    simp only [zcp]
    rw [if_neg (by omega)]
  have key := z_for (n := 463) (P := fun k => zA G d mX12_copy 3 [some (.ref a), some (.int (nI x)), some (.ref c), some (.int (nI y)), some (.int (nI k))] [] (zh b (zcp I a c x y k) L) (none, zh b (zcp I a c x y 463) L)) ?_ ?_ 0 (Nat.zero_le _)
  · simp only [h0] at key
    exact key
  · exact tX12_copy_3 ha la hc lc ⟨fun _ => rfl, fun q => absurd (nI_le (Nat.le_refl 463) (by decide)) q⟩
  · intro k hk ih
    refine tX12_copy_3 ha la hc lc ⟨fun q => absurd q (nI_ge hk (by decide)), fun _ => ?_⟩
    rw [nI_add, nI_add, zx_nI (by omega), zx_nI (by omega), nI_1]
    refine ⟨zv_in (by omega) (by omega), zv_in (by omega) (by omega), ?_⟩
    have e : zup (zcp I a c x y k) c (y + k) (zcp I a c x y k a (x + k)) = zcp I a c x y (k + 1) := by
      rw [zcp_ne hac]
      funext i j
      simp only [zup, zcp]
      by_cases h1 : i = c ∧ j = y + k
      · rw [if_pos h1, if_pos (by omega), show x + (j - y) = x + k by omega]
      · rw [if_neg h1]
        by_cases h2 : i = c ∧ y ≤ j ∧ j < y + k
        · rw [if_pos h2, if_pos (by omega)]
        · rw [if_neg h2, if_neg (by omega)]
    rw [e]
    exact ih
end BEC
theorem zim_cases {x : Int32} (h : zin x 0 1) : (x = 0 ∧ zim x = 19) ∨ (x = 1 ∧ zim x = 28) := by
  obtain ⟨k, -, hk, rfl⟩ := h.nat (by decide)
  rcases (by omega : k = 0 ∨ k = 1) with rfl | rfl
  · exact Or.inl ⟨rfl, rfl⟩
  · exact Or.inr ⟨rfl, rfl⟩
theorem p_image (x1 : Int32) : zPair mX11_image mX12_image [.int x1] := by
  refine zPair.of fun σ hi => ?_
  by_cases hv : zin x1 0 1
  · rcases zim_cases hv with ⟨rfl, hz⟩ | ⟨rfl, hz⟩
    · refine ⟨.int 1, (σ.1, σ.2.1, σ.2.2.1, σ.2.2.2.1, (true, σ.1), σ.2.2.2.2.2), fun d b I L hc => ⟨b, zbec I 19 b, L, ?_, ?_, ?_, zhiL.rf⟩, fun d b I L hc => ⟨zup (zcp I 57 59 0 0 463) 60 0 1, L, ?_, ?_, ?_, zloL.rf⟩, ?_, Or.inl ⟨rfl, _, rfl⟩⟩
      · exact zCall.of okX11_image (Nat.le_of_ble_eq_true rfl) ⟨Nat.le_refl _, Nat.le_refl _⟩ (fun G => tX11_image_0 (d := d + 38) zR0.w ⟨fun _ => ⟨_, by rw [hz]; exact kX4_becomeLike z19 hc.1.hl, rfl⟩, fun q => absurd (by decide) q⟩)
      · have hb := hc.1.le
        have dn := zbec_dn (I := I) (q := 19) (o := b) (by omega)
        obtain ⟨h1, h2, h3, h4, h5, h6, h7⟩ := hc
        refine ⟨h1, h2.congr (fun k hk => dn.2.2 (b + k) (by omega)), ?_, h4, ?_, ⟨fun _ => zbec_hr (by omega) hi.1 h2, fun q => absurd q (by simp)⟩, h7.congr (fun k hk => dn.2.2 (28 + k) (by omega))⟩
        · rw [dn.2.2 53 (by omega), dn.2.2 54 (by omega)]; exact h3
        · rw [dn.2.2 0 (by omega)]; exact h5
      · intro i hi2
        exact (zbec_dn (I := I) (q := 19) (o := b) (by have := hc.1.le; omega)).2.2 i (by omega)
      · exact zCall.of okX12_image (Nat.le_of_ble_eq_true rfl) ⟨Nat.le_refl _, Nat.le_refl _⟩ (fun G => tX12_image_0 (d := d + 39) zR0.w ⟨fun _ => ⟨_, kX12_copy (x := 0) (y := 0) (n := 463) (m := 926) rfl (by decide) rfl (by decide) (by decide) (by decide) (by decide) (by decide), zvi (by decide), rfl⟩, fun q => absurd (by decide) q⟩)
      · obtain ⟨h1, h2, h3, h4, h5, h6, h7⟩ := hc
        unfold zRf
        rw [zup_ne (a := 57) (by decide), zup_ne (a := 56) (by decide), zup_ne (a := 61) (by decide), zup_ne (a := 62) (by decide), zup_ne (a := 59) (by decide), zcp_ne (i := 57) (by decide), zcp_ne (i := 56) (by decide), zcp_ne (i := 61) (by decide), zcp_ne (i := 62) (by decide)]
        refine ⟨h1, h2, h3, h4, ⟨by simp [zup]; rfl, ?_⟩, fun _ k hk => ?_, fun q k hk => ?_⟩
        · rw [show zup (zcp I 57 59 0 0 463) 60 0 1 60 1 = I 60 1 by simp [zup, zcp]]; exact h5.2
        · simp [zcp, hk]; exact h1 k hk
        · rw [show zcp I 57 59 0 0 463 59 (463 + k) = I 59 (463 + k) by simp [zcp]; intro z; omega]; exact h7 q k hk
      · intro i hi2
        rw [zup_ne (by omega), zcp_ne (by omega)]
      · exact ⟨hi.1, hi.2.1, fun _ => hi.1, hi.2.2.2⟩
    · refine ⟨.int 1, (σ.1, σ.2.1, σ.2.2.1, σ.2.2.2.1, σ.2.2.2.2.1, (true, σ.1)), fun d b I L hc => ⟨b, zbec I 28 b, L, ?_, ?_, ?_, zhiL.rf⟩, fun d b I L hc => ⟨zup (zcp I 57 59 0 463 463) 60 1 1, L, ?_, ?_, ?_, zloL.rf⟩, ?_, Or.inl ⟨rfl, _, rfl⟩⟩
      · exact zCall.of okX11_image (Nat.le_of_ble_eq_true rfl) ⟨Nat.le_refl _, Nat.le_refl _⟩ (fun G => tX11_image_0 (d := d + 38) zR0.w ⟨fun _ => ⟨_, by rw [hz]; exact kX4_becomeLike z28 hc.1.hl, rfl⟩, fun q => absurd (by decide) q⟩)
      · have hb := hc.1.le
        have dn := zbec_dn (I := I) (q := 28) (o := b) (by omega)
        obtain ⟨h1, h2, h3, h4, h5, h6, h7⟩ := hc
        refine ⟨h1, h2.congr (fun k hk => dn.2.2 (b + k) (by omega)), ?_, h4, ?_, h6.congr (fun k hk => dn.2.2 (19 + k) (by omega)), ⟨fun _ => zbec_hr (by omega) hi.1 h2, fun q => absurd q (by simp)⟩⟩
        · rw [dn.2.2 53 (by omega), dn.2.2 54 (by omega)]; exact h3
        · rw [dn.2.2 0 (by omega)]; exact h5
      · intro i hi2
        exact (zbec_dn (I := I) (q := 28) (o := b) (by have := hc.1.le; omega)).2.2 i (by omega)
      · exact zCall.of okX12_image (Nat.le_of_ble_eq_true rfl) ⟨Nat.le_refl _, Nat.le_refl _⟩ (fun G => tX12_image_0 (d := d + 39) zR0.w ⟨fun _ => ⟨_, kX12_copy (x := 0) (y := 463) (n := 463) (m := 926) rfl (by decide) rfl (by decide) (by decide) (by decide) (by decide) (by decide), zvi (by decide), rfl⟩, fun q => absurd (by decide) q⟩)
      · obtain ⟨h1, h2, h3, h4, h5, h6, h7⟩ := hc
        unfold zRf
        rw [zup_ne (a := 57) (by decide), zup_ne (a := 56) (by decide), zup_ne (a := 61) (by decide), zup_ne (a := 62) (by decide), zup_ne (a := 59) (by decide), zcp_ne (i := 57) (by decide), zcp_ne (i := 56) (by decide), zcp_ne (i := 61) (by decide), zcp_ne (i := 62) (by decide)]
        refine ⟨h1, h2, h3, h4, ⟨?_, by simp [zup]; rfl⟩, fun q k hk => ?_, fun _ k hk => ?_⟩
        · rw [show zup (zcp I 57 59 0 463 463) 60 1 1 60 0 = I 60 0 by simp [zup, zcp]]; exact h5.1
        · rw [show zcp I 57 59 0 463 463 59 k = I 59 k by simp [zcp]; omega]; exact h6 q k hk
        · rw [show zcp I 57 59 0 463 463 59 (463 + k) = I 57 k by simp [zcp]; omega]; exact h1 k hk
      · intro i hi2
        rw [zup_ne (by omega), zcp_ne (by omega)]
      · exact ⟨hi.1, hi.2.1, hi.2.2.1, fun _ => hi.1⟩
  · refine ⟨.int (-2), sBad σ, sc_bad fun d b I L hc => ?_, sr_bad fun d b I L hc => ?_, hi, Or.inl ⟨rfl, _, rfl⟩⟩
    · exact zCall.of okX11_image (Nat.le_of_ble_eq_true rfl) ⟨Nat.le_refl _, Nat.le_refl _⟩ (fun G => tX11_image_0 (d := d + 38) zR0.w ⟨fun q => absurd (e01.mp q) hv, fun _ => xBad _⟩)
    · exact zCall.of okX12_image (Nat.le_of_ble_eq_true rfl) ⟨Nat.le_refl _, Nat.le_refl _⟩ (fun G => tX12_image_0 (d := d + 39) zR0.w ⟨fun q => absurd (e01r.mp q) hv, fun _ => yBad⟩)
