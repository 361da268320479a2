/-! pairs: from, undo -/
theorem zB_ne {k : Bool} : ¬ zB k = 0 ↔ k = true := ⟨zB_1, fun h => by rw [h]; decide⟩
theorem p_from (x1 : Int32) : zPair mX11_from mX12_from [.int x1] := by
  refine zPair.of fun σ hi => ?_
  by_cases hv : zin x1 0 1
  · rcases zim_cases hv with ⟨rfl, hz⟩ | ⟨rfl, hz⟩
    · cases hk : σ.2.2.2.2.1.1 with
      | true =>
        have wi := hi.2.2.1 hk
        refine ⟨.int 1, (σ.2.2.2.2.1.2, σ.2), fun d b I L hc => ⟨b, zbec I b 19, L, ?_, ?_, ?_, zhiL.rf⟩, fun d b I L hc => ⟨zcp I 59 57 0 0 463, L, ?_, ?_, fun i hi2 => zcp_ne (by omega), zloL.rf⟩, ⟨wi, hi.2⟩, Or.inl ⟨rfl, _, rfl⟩⟩
        · have h0 : 0 < I 19 0 := by
            rw [show I 19 0 = nI (σ.2.2.2.2.1.2 0) from (hc.2.2.2.2.2.1.1 hk).1.1]
            have := wi.1.1
            exact nI_lt (a := 0) (by omega) (by omega)
          exact zCall.of okX11_from (Nat.le_of_ble_eq_true rfl) ⟨Nat.le_refl _, Nat.le_refl _⟩ (fun G => tX11_from_0 (d := d + 38) hc.1 zR0.w ⟨fun _ => ⟨fun _ => ⟨_, by rw [hz]; exact kX4_becomeLike hc.1.hl z19, rfl⟩, fun q => absurd (by rw [hz]; exact h0) q⟩, fun q => absurd (by decide) q⟩)
        · have hb := hc.1.le
          exact hc.land (zbec_hr (by omega) wi (hc.2.2.2.2.2.1.1 hk)) (fun i h1 _ => (zbec_dn (I := I) (q := b) (o := 19) (by omega)).2.2 i h1)
        · intro i hi2
          have hb := hc.1.le
          exact (zbec_dn (I := I) (q := b) (o := 19) (by omega)).2.2 i (by omega)
        · have h6 : ¬ I 60 0 = 0 := by rw [hc.2.2.2.2.1.1, hk]; decide
          exact zCall.of okX12_from (Nat.le_of_ble_eq_true rfl) ⟨Nat.le_refl _, Nat.le_refl _⟩ (fun G => tX12_from_0 (d := d + 39) zR0.w ⟨fun _ => ⟨zvi (by decide), fun _ => ⟨_, kX12_copy (x := 0) (y := 0) (n := 926) (m := 463) rfl (by decide) rfl (by decide) (by decide) (by decide) (by decide) (by decide), rfl⟩, fun q => absurd q h6⟩, fun q => absurd (by decide) q⟩)
        · refine hc.now (fun k hk2 => ?_) ⟨by rw [zcp_ne (by decide)], fun i hi2 => zcp_ne (by omega)⟩
          simp [zcp, hk2]
          exact hc.2.2.2.2.2.1 hk k hk2
      | false =>
        refine ⟨.int (-3), sNo σ, sc_no fun d b I L hc => ?_, sr_no fun d b I L hc => ?_, hi, Or.inl ⟨rfl, _, rfl⟩⟩
        · have h0 : ¬ 0 < I 19 0 := by rw [show I 19 0 = 0 from hc.2.2.2.2.2.1.2 hk]; decide
          exact zCall.of okX11_from (Nat.le_of_ble_eq_true rfl) ⟨Nat.le_refl _, Nat.le_refl _⟩ (fun G => tX11_from_0 (d := d + 38) hc.1 zR0.w ⟨fun _ => ⟨fun q => absurd (by rw [hz] at q; exact q) h0, fun _ => xNo _⟩, fun q => absurd (by decide) q⟩)
        · have h6 : I 60 0 = 0 := by rw [hc.2.2.2.2.1.1, hk]; rfl
          exact zCall.of okX12_from (Nat.le_of_ble_eq_true rfl) ⟨Nat.le_refl _, Nat.le_refl _⟩ (fun G => tX12_from_0 (d := d + 39) zR0.w ⟨fun _ => ⟨zvi (by decide), fun q => absurd h6 q, fun _ => yNo⟩, fun q => absurd (by decide) q⟩)
    · cases hk : σ.2.2.2.2.2.1 with
      | true =>
        have wi := hi.2.2.2 hk
        refine ⟨.int 1, (σ.2.2.2.2.2.2, σ.2), fun d b I L hc => ⟨b, zbec I b 28, L, ?_, ?_, ?_, zhiL.rf⟩, fun d b I L hc => ⟨zcp I 59 57 463 0 463, L, ?_, ?_, fun i hi2 => zcp_ne (by omega), zloL.rf⟩, ⟨wi, hi.2⟩, Or.inl ⟨rfl, _, rfl⟩⟩
        · have h0 : 0 < I 28 0 := by
            rw [show I 28 0 = nI (σ.2.2.2.2.2.2 0) from (hc.2.2.2.2.2.2.1 hk).1.1]
            have := wi.1.1
            exact nI_lt (a := 0) (by omega) (by omega)
          exact zCall.of okX11_from (Nat.le_of_ble_eq_true rfl) ⟨Nat.le_refl _, Nat.le_refl _⟩ (fun G => tX11_from_0 (d := d + 38) hc.1 zR0.w ⟨fun _ => ⟨fun _ => ⟨_, by rw [hz]; exact kX4_becomeLike hc.1.hl z28, rfl⟩, fun q => absurd (by rw [hz]; exact h0) q⟩, fun q => absurd (by decide) q⟩)
        · have hb := hc.1.le
          exact hc.land (zbec_hr (by omega) wi (hc.2.2.2.2.2.2.1 hk)) (fun i h1 _ => (zbec_dn (I := I) (q := b) (o := 28) (by omega)).2.2 i h1)
        · intro i hi2
          have hb := hc.1.le
          exact (zbec_dn (I := I) (q := b) (o := 28) (by omega)).2.2 i (by omega)
        · have h6 : ¬ I 60 1 = 0 := by rw [hc.2.2.2.2.1.2, hk]; decide
          exact zCall.of okX12_from (Nat.le_of_ble_eq_true rfl) ⟨Nat.le_refl _, Nat.le_refl _⟩ (fun G => tX12_from_0 (d := d + 39) zR0.w ⟨fun _ => ⟨zvi (by decide), fun _ => ⟨_, kX12_copy (x := 463) (y := 0) (n := 926) (m := 463) rfl (by decide) rfl (by decide) (by decide) (by decide) (by decide) (by decide), rfl⟩, fun q => absurd q h6⟩, fun q => absurd (by decide) q⟩)
        · refine hc.now (fun k hk2 => ?_) ⟨by rw [zcp_ne (by decide)], fun i hi2 => zcp_ne (by omega)⟩
          simp [zcp, hk2]
          exact hc.2.2.2.2.2.2 hk k hk2
      | false =>
        refine ⟨.int (-3), sNo σ, sc_no fun d b I L hc => ?_, sr_no fun d b I L hc => ?_, hi, Or.inl ⟨rfl, _, rfl⟩⟩
        · have h0 : ¬ 0 < I 28 0 := by rw [show I 28 0 = 0 from hc.2.2.2.2.2.2.2 hk]; decide
          exact zCall.of okX11_from (Nat.le_of_ble_eq_true rfl) ⟨Nat.le_refl _, Nat.le_refl _⟩ (fun G => tX11_from_0 (d := d + 38) hc.1 zR0.w ⟨fun _ => ⟨fun q => absurd (by rw [hz] at q; exact q) h0, fun _ => xNo _⟩, fun q => absurd (by decide) q⟩)
        · have h6 : I 60 1 = 0 := by rw [hc.2.2.2.2.1.2, hk]; rfl
          exact zCall.of okX12_from (Nat.le_of_ble_eq_true rfl) ⟨Nat.le_refl _, Nat.le_refl _⟩ (fun G => tX12_from_0 (d := d + 39) zR0.w ⟨fun _ => ⟨zvi (by decide), fun q => absurd h6 q, fun _ => yNo⟩, fun q => absurd (by decide) q⟩)
  · refine ⟨.int (-2), sBad σ, sc_bad fun d b I L hc => ?_, sr_bad fun d b I L hc => ?_, hi, Or.inl ⟨rfl, _, rfl⟩⟩
    · exact zCall.of okX11_from (Nat.le_of_ble_eq_true rfl) ⟨Nat.le_refl _, Nat.le_refl _⟩ (fun G => tX11_from_0 (d := d + 38) hc.1 zR0.w ⟨fun q => absurd (e01.mp q) hv, fun _ => xBad _⟩)
    · exact zCall.of okX12_from (Nat.le_of_ble_eq_true rfl) ⟨Nat.le_refl _, Nat.le_refl _⟩ (fun G => tX12_from_0 (d := d + 39) zR0.w ⟨fun q => absurd (e01r.mp q) hv, fun _ => yBad⟩)
/-- how far the reference's undoing is -/
def zund (I : Nat → Nat → Int32) (u c : Nat) : Nat → Nat → Int32 := fun i k => if i = 57 ∧ 5 ≤ k ∧ k < 5 + c then I 57 (175 + 48 * u + (k - 5)) else if i = 57 ∧ k = 4 then nI u else I i k
theorem zund_4 {I : Nat → Nat → Int32} {u c : Nat} : zund I u c 57 4 = nI u := by simp [zund]
theorem zund_hi {I : Nat → Nat → Int32} {u c k : Nat} (h : 53 ≤ k) (hc : c ≤ 48) : zund I u c 57 k = I 57 k := by
  simp only [zund]
  rw [if_neg (by omega), if_neg (by omega)]
theorem zund_ne {I : Nat → Nat → Int32} {u c i : Nat} (h : i ≠ 57) : zund I u c i = I i := by
  funext k
  simp [zund, h]
/-- the last run undone -/
def wundo (w : zW) : zW := fun k => if k = 4 then w 4 - 1 else if 5 ≤ k ∧ k < 53 then w (175 + 48 * (w 4 - 1) + (k - 5)) else w k
theorem nI_m1 {n : Nat} (h : 0 < n) : nI n - 1 = nI (n - 1) := by
  obtain ⟨m, rfl⟩ : ∃ m, n = m + 1 := ⟨n - 1, by omega⟩
  exact nI_pred m
theorem winv.undo {w : zW} (h : winv w) (h4 : 0 < w 4) : winv (wundo w) := by
  obtain ⟨⟨b0, b1, b2, b3, b4⟩, a1, a2, a3, a4, a5⟩ := h
  have nn : ∀ j, j ≠ 4 → ¬ (5 ≤ j ∧ j < 53) → wundo w j = w j := fun j h1 h2 => by simp only [wundo]; rw [if_neg h1, if_neg h2]
  have n4 : wundo w 4 = w 4 - 1 := if_pos rfl
  unfold winv
  rw [n4, nn 0 (by omega) (by omega), nn 1 (by omega) (by omega), nn 2 (by omega) (by omega), nn 3 (by omega) (by omega)]
  refine ⟨⟨b0, b1, b2, b3, by omega⟩, fun c hc => ?_, fun c hc => by rw [nn _ (by omega) (by omega)]; exact a2 c hc, fun i h2 => ?_, fun k hk => by rw [nn _ (by omega) (by omega)]; exact a4 k hk, fun k hk => by rw [nn _ (by omega) (by omega)]; exact a5 k (by omega)⟩
  · simp only [wundo]
    rw [if_neg (by omega), if_pos (by omega)]
    have := a5 (48 * (w 4 - 1) + c) (by omega)
    rw [show 175 + 48 * (w 4 - 1) + (5 + c - 5) = 175 + (48 * (w 4 - 1) + c) by omega]
    exact this
  · obtain ⟨c1, c2, c3, c4⟩ := a3 i h2
    exact ⟨by rw [nn _ (by omega) (by omega)]; exact c1, by rw [nn _ (by omega) (by omega)]; exact c2, by rw [nn _ (by omega) (by omega)]; exact c3, fun r hr => by rw [nn _ (by omega) (by omega)]; exact c4 r hr⟩
theorem p_undo : zPair mX11_undo mX12_undo [] := by
  refine zPair.of fun σ hi => ?_
  obtain ⟨⟨hw0, hw1, hw2, hw3, hw4⟩, -⟩ := id hi.1
  by_cases h4 : σ.1 4 = 0
  · refine ⟨.int (-3), sNo σ, sc_no fun d b I L hc => ?_, sr_no fun d b I L hc => ?_, hi, Or.inl ⟨rfl, _, rfl⟩⟩
    · have h : I b 4 = 0 := by rw [show I b 4 = nI (σ.1 4) from hc.2.1.1.2.2.2.2, h4]; rfl
      exact zCall.of okX11_undo (Nat.le_of_ble_eq_true rfl) ⟨Nat.le_refl _, Nat.le_refl _⟩ (fun G => tX11_undo_0 (d := d + 38) hc.1 zR0.w ⟨fun q => absurd h q, fun _ => xNo _⟩)
    · have h : I 57 4 = 0 := by rw [hc.1 4 (by decide), h4]; rfl
      exact zCall.of okX12_undo (Nat.le_of_ble_eq_true rfl) ⟨Nat.le_refl _, Nat.le_refl _⟩ (fun G => tX12_undo_0 (d := d + 39) zR0.w ⟨fun q => absurd h q, fun _ => yNo⟩)
  · have h4p : 0 < σ.1 4 := by omega
    have nn : ∀ j, j ≠ 4 → ¬ (5 ≤ j ∧ j < 53) → wundo σ.1 j = σ.1 j := fun j h1 h2 => by simp only [wundo]; rw [if_neg h1, if_neg h2]
    have n4 : wundo σ.1 4 = σ.1 4 - 1 := if_pos rfl
    have ns : ∀ c, c < 48 → wundo σ.1 (5 + c) = σ.1 (175 + (48 * (σ.1 4 - 1) + c)) := fun c hc => by
      simp only [wundo]
      rw [if_neg (by omega), if_pos (by omega), show 175 + 48 * (σ.1 4 - 1) + (5 + c - 5) = 175 + (48 * (σ.1 4 - 1) + c) by omega]
    refine ⟨.int 1, (wundo σ.1, σ.2), fun d b I L hc => ⟨b, zrow (zup I b 4 (nI (σ.1 4 - 1))) (b + 1) (va_cpy (I (b + 8)) (I (b + 1)) (48 * (σ.1 4 - 1)) 0 48), L, ?_, ?_, ?_, zhiL.rf⟩, fun d b I L hc => ⟨zund I (σ.1 4 - 1) 48, L, ?_, ?_, ?_, zloL.rf⟩, ⟨hi.1.undo h4p, hi.2⟩, Or.inl ⟨rfl, _, rfl⟩⟩
    · have h : I b 4 = nI (σ.1 4) := hc.2.1.1.2.2.2.2
      refine zCall.of okX11_undo (Nat.le_of_ble_eq_true rfl) ⟨Nat.le_refl _, Nat.le_refl _⟩ (fun G => tX11_undo_0 (d := d + 38) hc.1 zR0.w ⟨fun _ => ⟨zrow (zup I b 4 (nI (σ.1 4 - 1))) (b + 1) (va_cpy (I (b + 8)) (I (b + 1)) (48 * (σ.1 4 - 1)) 0 48), zCall.of okX4_bringSlopesBack (Nat.le_of_ble_eq_true rfl) ⟨Nat.le_refl _, Nat.le_refl _⟩ (fun G => tX4_bringSlopesBack_0 (d := d + 38) hc.1.hl ⟨fun q => absurd q ?_, fun _ => ?_⟩), rfl⟩, fun q => absurd q ?_⟩)
      · rw [h]; exact nI_nle h4p (by omega)
      · rintro I2 rfl
        have e1 : zup I b 4 (I b 4 - 1) b 4 * 48 = nI (48 * (σ.1 4 - 1)) := by
          rw [zup_self, h, nI_m1 h4p]
          simp only [upd, if_true]
          rw [show (48 : Int32) = nI 48 from rfl, pk_mul, Nat.mul_comm]
        rw [e1, zx_nI (by omega), h, nI_m1 h4p, zup_ne (a := b + 8) (by omega), zup_ne (a := b + 1) (by omega)]
        exact ⟨⟨⟨nI_pos (by omega), by decide, by decide⟩, by show _ + 48 ≤ 288; omega, by decide⟩, rfl⟩
      · rw [h]; exact nI_ne0 h4p (by omega)
    · obtain ⟨⟨a0, a1, a2, a3, a4⟩, a5, a6, a7, a8, a9⟩ := id hc.2.1
      have g0 : zat (zrow (zup I b 4 (nI (σ.1 4 - 1))) (b + 1) (va_cpy (I (b + 8)) (I (b + 1)) (48 * (σ.1 4 - 1)) 0 48)) b 0 = upd (I b) 4 (nI (σ.1 4 - 1)) := by
        show zrow (zup I b 4 (nI (σ.1 4 - 1))) (b + 1) _ b = _
        rw [zrow_ne (by omega), zup_self]
      have g1 : zat (zrow (zup I b 4 (nI (σ.1 4 - 1))) (b + 1) (va_cpy (I (b + 8)) (I (b + 1)) (48 * (σ.1 4 - 1)) 0 48)) b 1 = va_cpy (I (b + 8)) (I (b + 1)) (48 * (σ.1 4 - 1)) 0 48 := zrow_self _ _ _
      have gk : ∀ k, k ≠ 0 → k ≠ 1 → zat (zrow (zup I b 4 (nI (σ.1 4 - 1))) (b + 1) (va_cpy (I (b + 8)) (I (b + 1)) (48 * (σ.1 4 - 1)) 0 48)) b k = I (b + k) := fun k h1 h2 => by
        show zrow (zup I b 4 (nI (σ.1 4 - 1))) (b + 1) _ (b + k) = _
        rw [zrow_ne (by omega), zup_ne (by omega)]
      refine hc.land ?_ (fun i h1 _ => by rw [zrow_ne (by omega), zup_ne (by omega)])
      unfold hr
      rw [n4, nn 0 (by omega) (by omega), nn 1 (by omega) (by omega), nn 2 (by omega) (by omega), nn 3 (by omega) (by omega), g0, g1, gk 2 (by omega) (by omega), gk 3 (by omega) (by omega), gk 4 (by omega) (by omega), gk 5 (by omega) (by omega), gk 6 (by omega) (by omega), gk 7 (by omega) (by omega), gk 8 (by omega) (by omega)]
      refine ⟨⟨a0, a1, a2, a3, by simp [upd]⟩, fun c hc2 => ?_, fun c hc2 => by rw [nn _ (by omega) (by omega)]; exact a6 c hc2, fun i h2 => ?_, fun k hk => by rw [nn _ (by omega) (by omega)]; exact a8 k hk, fun k hk => by rw [nn _ (by omega) (by omega)]; exact a9 k (by omega)⟩
      · rw [ns c hc2, pk_cpy_in (by omega) (by omega), Nat.sub_zero]
        exact a9 _ (by omega)
      · obtain ⟨c1, c2, c3, c4⟩ := a7 i h2
        exact ⟨by rw [nn _ (by omega) (by omega)]; exact c1, by rw [nn _ (by omega) (by omega)]; exact c2, by rw [nn _ (by omega) (by omega)]; exact c3, fun r hr => by rw [nn _ (by omega) (by omega)]; exact c4 r hr⟩
    · have hb := hc.1.le
      exact (zhi.rf.up (by omega)).row (by omega)
    · have h : I 57 4 = nI (σ.1 4) := hc.1 4 (by decide)
      refine zCall.of okX12_undo (Nat.le_of_ble_eq_true rfl) ⟨Nat.le_refl _, Nat.le_refl _⟩ (fun G => tX12_undo_0 (d := d + 39) zR0.w ⟨fun _ => ?_, fun q => absurd q (by rw [h]; exact nI_ne0 h4p (by omega))⟩)
      rw [h, nI_m1 h4p]
      have key := z_for (n := 48) (P := fun c => zA G (d + 39 + 1) mX12_undo 28 [some (.ref 56), some (.int (nI c))] [] (zh b (zund I (σ.1 4 - 1) c) L) (some (.int 1), zh b (zund I (σ.1 4 - 1) 48) L)) ?_ ?_ 0 (Nat.zero_le _)
      · have e : zund I (σ.1 4 - 1) 0 = zup I 57 4 (nI (σ.1 4 - 1)) := by
          funext i k
          simp only [zund]
          rw [if_neg (by omega)]
          rfl
        simp only [e] at key
        exact key
      · exact tX12_undo_28 ⟨fun _ => rfl, fun q => absurd (nI_le (Nat.le_refl 48) (by decide)) q⟩
      · intro c hc2 ih
        refine tX12_undo_28 ⟨fun q => absurd q (nI_ge hc2 (by decide)), fun _ => ?_⟩
        rw [zund_4, show (175 : Int32) = nI 175 from rfl, show (48 : Int32) = nI 48 from rfl, show (5 : Int32) = nI 5 from rfl, pk_mul, nI_add, nI_add, nI_add, zx_nI (by omega), zx_nI (by omega), nI_1]
        refine ⟨zv_in (by omega) (by decide), zv_in (by omega) (by decide), ?_⟩
        have e : zup (zund I (σ.1 4 - 1) c) 57 (5 + c) (zund I (σ.1 4 - 1) c 57 (175 + 48 * (σ.1 4 - 1) + c)) = zund I (σ.1 4 - 1) (c + 1) := by
          rw [zund_hi (by omega) (by omega)]
          funext i k
          simp only [zup, zund]
          by_cases q1 : i = 57 ∧ k = 5 + c
          · rw [if_pos q1, if_pos (by omega), show 175 + 48 * (σ.1 4 - 1) + (k - 5) = 175 + 48 * (σ.1 4 - 1) + c by omega]
          · rw [if_neg q1]
            by_cases q2 : i = 57 ∧ 5 ≤ k ∧ k < 5 + c
            · rw [if_pos q2, if_pos (by omega)]
            · rw [if_neg q2, if_neg (show ¬ (i = 57 ∧ 5 ≤ k ∧ k < 5 + (c + 1)) by omega)]
        rw [e]
        exact ih
    · refine hc.now (fun k hk => ?_) ⟨by rw [zund_ne (by decide)], fun i hi2 => zund_ne (by omega)⟩
      simp only [wundo, zund]
      by_cases q1 : 5 ≤ k ∧ k < 53
      · rw [if_pos ⟨trivial, by omega⟩, if_neg (by omega), if_pos q1]
        exact hc.1 _ (by omega)
      · rw [if_neg (fun z => q1 (by omega))]
        by_cases q2 : k = 4
        · rw [if_pos ⟨trivial, q2⟩, if_pos q2]
        · rw [if_neg (fun z => q2 z.2), if_neg q2, if_neg q1]
          exact hc.1 k hk
    · intro i hi2
      exact zund_ne (by omega)
