/-! loops; rows filled, laid out, cleaned; refusals -/
theorem z_for {P : Nat → Prop} {n : Nat} (he : P n) (hs : ∀ k, k < n → P (k + 1) → P k) : ∀ k, k ≤ n → P k := by
  intro k hk
  obtain ⟨j, hj⟩ : ∃ j, n = k + j := ⟨n - k, by omega⟩
  clear hk
  induction j generalizing k with
  | zero => rw [show k = n by omega]; exact he
  | succ j ih => exact hs k (by omega) (ih (k + 1) (by omega))
def zfill (I : Nat → Nat → Int32) (a n : Nat) (v : Int32) : Nat → Nat → Int32 := fun i k => if i = a ∧ k < n then v else I i k
theorem zfill_ne {I : Nat → Nat → Int32} {a n : Nat} {v : Int32} {i : Nat} (h : i ≠ a) : zfill I a n v i = I i := by
  funext k
  simp [zfill, h]
section LOW
variable {d b : Nat} {I : Nat → Nat → Int32} {L : Nat → Nat → Int64}
theorem kfill {a n : Nat} (ha : zsh a = (100, n)) (la : a < 74) (hn : n < 2 ^ 30) (v : Int32) : zCall d mJ7_fill_53178 [.ref a, .int v] (zh b I L) (none, zh b (zfill I a n v) L) := by
  refine zCall.of okJ7_fill_53178 (Nat.le_of_ble_eq_true rfl) ⟨Nat.le_refl _, Nat.le_refl _⟩ (fun G => tJ7_fill_53178_0 ha la ?_)
  have h0 : zfill I a 0 v = I := by funext i k; simp [zfill]
  have key := z_for (n := n) (P := fun k => zA G d mJ7_fill_53178 5 [some (.ref a), some (.int v), some (.int (nI k)), some (.int (nI n))] [] (zh b (zfill I a k v) L) (none, zh b (zfill I a n v) L))
    (tJ7_fill_53178_5 ha la ⟨fun _ => rfl, fun h => absurd (nI_le (Nat.le_refl n) (by omega)) h⟩)
    (fun k hk ih => tJ7_fill_53178_5 ha la ⟨fun h => absurd h (nI_ge hk (by omega)), fun _ => ⟨zv_in hk (by omega), ?_⟩⟩) 0 (Nat.zero_le _)
  · simp only [h0] at key
    exact key
  · have e : zup (zfill I a k v) a (zx (nI k)) v = zfill I a (k + 1) v := by
      funext i j
      rw [zx_nI (by omega)]
      simp only [zup, zfill]
      repeat' split
      all_goals first | rfl | (exfalso; omega)
    rw [e, nI_1]
    exact ih
/-- a hill laid out -/
def zlay (I : Nat → Nat → Int32) (q : Nat) (h w : Int32) : Nat → Nat → Int32 := zfill (zfill (zup (zup (zup (zup (zup I q 0 h) q 1 w) q 2 0) q 3 0) q 4 0) (q + 1) 48 3) (q + 2) 48 0
theorem kX4_layOut {q : Nat} (hq : zhl q) (h w : Int32) : zCall (d + 1) mX4_layOut [.ref q, .int h, .int w] (zh b I L) (none, zh b (zlay I q h w) L) := by
  refine zCall.of okX4_layOut (Nat.le_of_ble_eq_true rfl) ⟨Nat.le_refl _, Nat.le_refl _⟩ (fun G => tX4_layOut_0 hq zR0.w ?_)
  rintro I1 rfl I2 rfl I3 rfl I4 rfl
  exact ⟨_, kfill hq.s1 (hq.lt 1 (by decide)) (by decide) 3, _, kfill hq.s2 (hq.lt 2 (by decide)) (by decide) 0, rfl⟩
/-- a clean hill -/
def wcl (h w : Nat) : zW := fun k => if k = 0 then h else if k = 1 then w else if 5 ≤ k ∧ k ≤ 52 then 3 else 0
def zcln (I : Nat → Nat → Int32) (a : Nat) (f : Nat → Int32) (n : Nat) : Nat → Nat → Int32 := fun i k => if i = a ∧ k < n then f k else I i k
theorem zcln_ne {I : Nat → Nat → Int32} {a n : Nat} {f : Nat → Int32} {i : Nat} (h : i ≠ a) : zcln I a f n i = I i := by
  funext k
  simp [zcln, h]
theorem kX12_clean {a : Nat} (ha : zsh a = (100, 463)) (la : a < 74) (h w : Nat) : zCall (d + 1) mX12_clean [.ref a, .int (nI h), .int (nI w)] (zh b I L) (none, zh b (zcln I a (fun k => nI (wcl h w k)) 463) L) := by
  refine zCall.of okX12_clean (Nat.le_of_ble_eq_true rfl) ⟨Nat.le_refl _, Nat.le_refl _⟩ (fun G => tX12_clean_0 ha la ?_)
  have h0 : zcln I a (fun k => if 5 ≤ k ∧ k ≤ 52 then 3 else 0) 0 = I := by funext i k; simp [zcln]
  have key := z_for (n := 463) (P := fun k => zA G (d + 1) mX12_clean 2 [some (.ref a), some (.int (nI h)), some (.int (nI w)), some (.int (nI k))] [] (zh b (zcln I a (fun k => if 5 ≤ k ∧ k ≤ 52 then 3 else 0) k) L) (none, zh b (zcln I a (fun k => nI (wcl h w k)) 463) L)) ?_ ?_ 0 (Nat.zero_le _)
  · simp only [h0] at key
    exact key
  · refine tX12_clean_2 ha la zR0.w ⟨fun _ => ?_, fun q => absurd (nI_le (Nat.le_refl 463) (by decide)) q⟩
    rintro I2 rfl
    have e : zup (zup (zcln I a (fun k => if 5 ≤ k ∧ k ≤ 52 then 3 else 0) 463) a 0 (nI h)) a 1 (nI w) = zcln I a (fun k => nI (wcl h w k)) 463 := by
      funext i j
      simp only [zup, zcln, wcl]
      repeat' split
      all_goals first | rfl | (exfalso; omega)
    rw [e]
  · intro k hk ih
    refine tX12_clean_2 ha la zR0.w ⟨fun q => absurd q (nI_ge hk (by decide)), fun _ => ⟨fun q => ⟨zv_in hk (by decide), ?_⟩, fun q => ⟨zv_in hk (by decide), ?_⟩⟩⟩
    · have q2 : ¬ (5 ≤ k ∧ k ≤ 52) := fun z => q ((zin_r (lo := 5) (hi := 52) (by decide) (by decide)).mpr (by unfold zin; rw [nI_toInt (by omega)]; omega))
      have e : zup (zcln I a (fun k => if 5 ≤ k ∧ k ≤ 52 then 3 else 0) k) a (zx (nI k)) 0 = zcln I a (fun k => if 5 ≤ k ∧ k ≤ 52 then 3 else 0) (k + 1) := by
        funext i j
        rw [zx_nI (by omega)]
        simp only [zup, zcln]
        repeat' split
        all_goals first | rfl | (exfalso; omega)
      rw [e, nI_1]
      exact ih
    · have q2 : 5 ≤ k ∧ k ≤ 52 := by
        have := (zin_r (lo := 5) (hi := 52) (by decide) (by decide)).mp q
        unfold zin at this
        rw [nI_toInt (by omega)] at this
        omega
      have e : zup (zcln I a (fun k => if 5 ≤ k ∧ k ≤ 52 then 3 else 0) k) a (zx (nI k)) 3 = zcln I a (fun k => if 5 ≤ k ∧ k ≤ 52 then 3 else 0) (k + 1) := by
        funext i j
        rw [zx_nI (by omega)]
        simp only [zup, zcln]
        repeat' split
        all_goals first | rfl | (exfalso; omega)
      rw [e, nI_1]
      exact ih
/-- the reference's refusals -/
theorem kX12_refuseB : zCall d mX12_refuse [.ref 56, .int (-2)] (zh b I L) (some (.int (-2)), zh b (zup I 62 0 (I 62 0 + 1)) L) :=
  zCall.of okX12_refuse (Nat.le_of_ble_eq_true rfl) ⟨Nat.le_refl _, Nat.le_refl _⟩ (fun G => tX12_refuse_0 ⟨zvi (by decide), zvi (by decide), rfl⟩)
theorem kX12_refuseN : zCall d mX12_refuse [.ref 56, .int (-3)] (zh b I L) (some (.int (-3)), zh b (zup I 62 1 (I 62 1 + 1)) L) :=
  zCall.of okX12_refuse (Nat.le_of_ble_eq_true rfl) ⟨Nat.le_refl _, Nat.le_refl _⟩ (fun G => tX12_refuse_0 ⟨zvi (by decide), zvi (by decide), rfl⟩)
theorem kX12_refuseF : zCall d mX12_refuse [.ref 56, .int (-4)] (zh b I L) (some (.int (-4)), zh b (zup I 62 2 (I 62 2 + 1)) L) :=
  zCall.of okX12_refuse (Nat.le_of_ble_eq_true rfl) ⟨Nat.le_refl _, Nat.le_refl _⟩ (fun G => tX12_refuse_0 ⟨zvi (by decide), zvi (by decide), rfl⟩)
/-- σ with one more refused -/
def sBad (σ : zσ) : zσ := (σ.1, σ.2.1, σ.2.2.1, (σ.2.2.2.1.1 + 1, σ.2.2.2.1.2.1, σ.2.2.2.1.2.2), σ.2.2.2.2)
def sNo (σ : zσ) : zσ := (σ.1, σ.2.1, σ.2.2.1, (σ.2.2.2.1.1, σ.2.2.2.1.2.1 + 1, σ.2.2.2.1.2.2), σ.2.2.2.2)
def sFull (σ : zσ) : zσ := (σ.1, σ.2.1, σ.2.2.1, (σ.2.2.2.1.1, σ.2.2.2.1.2.1, σ.2.2.2.1.2.2 + 1), σ.2.2.2.2)
theorem zat_up {I : Nat → Nat → Int32} {i j q k : Nat} {x : Int32} (h : i < q ∨ q + 8 < i) (hk : k ≤ 8) : zat (zup I i j x) q k = zat I q k := zup_ne (by omega)
theorem zCl.bad {σ : zσ} (h : zCl b I L σ) : zCl b (zup I 0 12 (I 0 12 + 1)) L (sBad σ) := by
  obtain ⟨h1, h2, h3, h4, h5, h6, h7⟩ := h
  have hb : 1 ≤ b := by rcases h1 with rfl | rfl <;> omega
  refine ⟨h1, h2.congr (fun k hk => zat_up (by omega) hk), ?_, h4, ?_, h6.congr (fun k hk => zat_up (by omega) hk), h7.congr (fun k hk => zat_up (by omega) hk)⟩
  · rw [zup_ne (by decide), zup_ne (by decide)]; exact h3
  · refine ⟨?_, ?_, ?_⟩
    · simp [zup, sBad, h5.1]
    · simp [zup, sBad, h5.2.1]
    · simp [zup, sBad, h5.2.2]
theorem zCl.no {σ : zσ} (h : zCl b I L σ) : zCl b (zup I 0 13 (I 0 13 + 1)) L (sNo σ) := by
  obtain ⟨h1, h2, h3, h4, h5, h6, h7⟩ := h
  have hb : 1 ≤ b := by rcases h1 with rfl | rfl <;> omega
  refine ⟨h1, h2.congr (fun k hk => zat_up (by omega) hk), ?_, h4, ?_, h6.congr (fun k hk => zat_up (by omega) hk), h7.congr (fun k hk => zat_up (by omega) hk)⟩
  · rw [zup_ne (by decide), zup_ne (by decide)]; exact h3
  · refine ⟨?_, ?_, ?_⟩
    · simp [zup, sNo, h5.1]
    · simp [zup, sNo, h5.2.1]
    · simp [zup, sNo, h5.2.2]
theorem zCl.full {σ : zσ} (h : zCl b I L σ) : zCl b (zup I 0 14 (I 0 14 + 1)) L (sFull σ) := by
  obtain ⟨h1, h2, h3, h4, h5, h6, h7⟩ := h
  have hb : 1 ≤ b := by rcases h1 with rfl | rfl <;> omega
  refine ⟨h1, h2.congr (fun k hk => zat_up (by omega) hk), ?_, h4, ?_, h6.congr (fun k hk => zat_up (by omega) hk), h7.congr (fun k hk => zat_up (by omega) hk)⟩
  · rw [zup_ne (by decide), zup_ne (by decide)]; exact h3
  · refine ⟨?_, ?_, ?_⟩
    · simp [zup, sFull, h5.1]
    · simp [zup, sFull, h5.2.1]
    · simp [zup, sFull, h5.2.2]
theorem zRf.up {σ : zσ} {i j : Nat} {x : Int32} (h : zRf I L σ) (hi : i ≠ 56 ∧ i ≠ 57 ∧ i ≠ 59 ∧ i ≠ 60 ∧ i ≠ 61 ∧ i ≠ 62) : zRf (zup I i j x) L σ := by
  unfold zRf
  rw [zup_ne (by omega), zup_ne (by omega), zup_ne (by omega), zup_ne (by omega), zup_ne (by omega), zup_ne (by omega)]
  exact h
theorem zRf.bad {σ : zσ} (h : zRf I L σ) : zRf (zup I 62 0 (I 62 0 + 1)) L (sBad σ) := by
  obtain ⟨h1, h2, h3, h4, h5, h6⟩ := h
  unfold zRf
  rw [zup_ne (a := 57) (by decide), zup_ne (a := 56) (by decide), zup_ne (a := 61) (by decide), zup_ne (a := 60) (by decide), zup_ne (a := 59) (by decide)]
  refine ⟨h1, h2, h3, ⟨?_, ?_, ?_⟩, h5, h6⟩
  · simp [zup, sBad, h4.1]
  · simp [zup, sBad, h4.2.1]
  · simp [zup, sBad, h4.2.2]
theorem zRf.no {σ : zσ} (h : zRf I L σ) : zRf (zup I 62 1 (I 62 1 + 1)) L (sNo σ) := by
  obtain ⟨h1, h2, h3, h4, h5, h6⟩ := h
  unfold zRf
  rw [zup_ne (a := 57) (by decide), zup_ne (a := 56) (by decide), zup_ne (a := 61) (by decide), zup_ne (a := 60) (by decide), zup_ne (a := 59) (by decide)]
  refine ⟨h1, h2, h3, ⟨?_, ?_, ?_⟩, h5, h6⟩
  · simp [zup, sNo, h4.1]
  · simp [zup, sNo, h4.2.1]
  · simp [zup, sNo, h4.2.2]
theorem zRf.full {σ : zσ} (h : zRf I L σ) : zRf (zup I 62 2 (I 62 2 + 1)) L (sFull σ) := by
  obtain ⟨h1, h2, h3, h4, h5, h6⟩ := h
  unfold zRf
  rw [zup_ne (a := 57) (by decide), zup_ne (a := 56) (by decide), zup_ne (a := 61) (by decide), zup_ne (a := 60) (by decide), zup_ne (a := 59) (by decide)]
  refine ⟨h1, h2, h3, ⟨?_, ?_, ?_⟩, h5, h6⟩
  · simp [zup, sFull, h4.1]
  · simp [zup, sFull, h4.2.1]
  · simp [zup, sFull, h4.2.2]
end LOW
