/-! THE WAY of runner i on the hill w, a tumbler from row t on: lane, pace ahead of row r, time at row r, harm in row r, harm up to row r -/
def vL (w : zW) (i : Nat) : Nat → Nat
  | 0 => w (107 + i)
  | r + 1 => wstp (w 1) (vL w i r) (w (119 + 8 * i + r))
def vO (w : zW) (i t r : Nat) : Nat := if t ≤ r then 2 else w (101 + i)
def vG (w : zW) (i r : Nat) : Nat := w (53 + (6 * r + vL w i r))
def vS (w : zW) (i r : Nat) : Nat := w (5 + (6 * r + vL w i r))
def vP (w : zW) (i t : Nat) : Nat → Nat
  | 0 => 0
  | r + 1 => wpc (vO w i t r) (vP w i t r) (vS w i r) (vG w i r) r
def vT (w : zW) (i t : Nat) : Nat → Nat
  | 0 => 0
  | r + 1 => vT w i t r + wtm (vO w i t r) (vP w i t (r + 1)) (vG w i r)
def vH (w : zW) (i t r : Nat) : Nat := whm (vO w i t r) (vP w i t r) (vP w i t (r + 1)) (vG w i r)
def vHs (w : zW) (i t : Nat) : Nat → Nat
  | 0 => 0
  | r + 1 => vHs w i t r + vH w i t r
section WAY
variable {w : zW} {i t : Nat}
theorem vL_lt (h : winv w) (hi : i < w 2) : ∀ r, r ≤ w 0 → vL w i r < w 1 := by
  intro r
  induction r with
  | zero => intro _; exact (h.2.2.2.1 i hi).2.1
  | succ r ih => intro hr; exact wstp_lt (ih (by omega))
theorem vP_le (r : Nat) : vP w i t r ≤ 20 := by
  cases r with
  | zero => exact Nat.zero_le _
  | succ r => exact wpc_le _ _ _ _ _
theorem vT_le : ∀ r, vT w i t r ≤ 35 * r := by
  intro r
  induction r with
  | zero => exact Nat.le_refl _
  | succ r ih =>
    have : wtm (vO w i t r) (vP w i t (r + 1)) (vG w i r) ≤ 35 := wtm_le
    show vT w i t r + _ ≤ _
    omega
theorem vH_le (r : Nat) : vH w i t r ≤ 6 := whm_le _ _ _ _
theorem vHs_le : ∀ r, vHs w i t r ≤ 6 * r := by
  intro r
  induction r with
  | zero => exact Nat.le_refl _
  | succ r ih =>
    have := vH_le (w := w) (i := i) (t := t) r
    show vHs w i t r + _ ≤ _
    omega
theorem vO_le (h : winv w) (hi : i < w 2) (r : Nat) : vO w i t r < 5 := by
  unfold vO
  have := (h.2.2.2.1 i hi).1
  split <;> omega
theorem vG_le (h : winv w) (hi : i < w 2) {r : Nat} (hr : r < w 0) : vG w i r ≤ 3 := by
  have h1 := vL_lt h hi r (by omega)
  have h2 := h.1.1
  have h3 := h.1.2.1
  exact h.2.2.1 _ (by omega)
theorem vS_le (h : winv w) (hi : i < w 2) {r : Nat} (hr : r < w 0) : vS w i r ≤ 9 := by
  have h1 := vL_lt h hi r (by omega)
  have h2 := h.1.1
  have h3 := h.1.2.1
  exact h.2.1 _ (by omega)
end WAY
/-- the class's ways, n rows of runner i written -/
def zfl (I : Nat → Nat → Int32) (w : zW) (i t n : Nat) : Nat → Nat → Int32 := fun a j =>
  if 9 * i ≤ j ∧ j < 9 * i + n ∧ 44 ≤ a ∧ a ≤ 47 then (if a = 44 then nI (vL w i (j - 9 * i)) else if a = 45 then nI (vP w i t (j - 9 * i + 1)) else if a = 46 then nI (vT w i t (j - 9 * i)) else nI (vH w i t (j - 9 * i))) else I a j
theorem zfl_ne {I : Nat → Nat → Int32} {w : zW} {i t n a : Nat} (h : a < 44 ∨ 47 < a) : zfl I w i t n a = I a := by
  funext j
  simp only [zfl]
  rw [if_neg (by omega)]
/-- ... the foot too -/
def zfoot (I : Nat → Nat → Int32) (w : zW) (i t : Nat) : Nat → Nat → Int32 := zup (zup (zfl I w i t (w 0)) 44 (9 * i + w 0) (nI (vL w i (w 0)))) 46 (9 * i + w 0) (nI (vT w i t (w 0)))
theorem zfoot_ne {I : Nat → Nat → Int32} {w : zW} {i t a : Nat} (h : a < 44 ∨ 47 < a) : zfoot I w i t a = I a := by
  unfold zfoot
  rw [zup_ne (by omega), zup_ne (by omega), zfl_ne h]
theorem zfl_0 {I : Nat → Nat → Int32} {w : zW} {i t : Nat} : zfl I w i t 0 = I := by
  funext a j
  simp only [zfl]
  rw [if_neg (by omega)]
theorem zfl_s {I : Nat → Nat → Int32} {w : zW} {i t n : Nat} : zup (zup (zup (zup (zfl I w i t n) 44 (9 * i + n) (nI (vL w i n))) 45 (9 * i + n) (nI (vP w i t (n + 1)))) 46 (9 * i + n) (nI (vT w i t n))) 47 (9 * i + n) (nI (vH w i t n)) = zfl I w i t (n + 1) := by
  funext a j
  by_cases hj : j = 9 * i + n
  · subst hj
    have e : 9 * i + n - 9 * i = n := by omega
    simp only [zup, zfl, e]
    by_cases h7 : a = 47
    · subst h7; simp
    · by_cases h6 : a = 46
      · subst h6; simp
      · by_cases h5 : a = 45
        · subst h5; simp
        · by_cases h4 : a = 44
          · subst h4; simp
          · rw [if_neg (by omega), if_neg (by omega), if_neg (by omega), if_neg (by omega), if_neg (by omega), if_neg (by omega)]
  · simp only [zup, zfl]
    rw [if_neg (by omega), if_neg (by omega), if_neg (by omega), if_neg (by omega)]
    by_cases h : 9 * i ≤ j ∧ j < 9 * i + n ∧ 44 ≤ a ∧ a ≤ 47
    · rw [if_pos h, if_pos (show 9 * i ≤ j ∧ j < 9 * i + (n + 1) ∧ 44 ≤ a ∧ a ≤ 47 by omega)]
    · rw [if_neg h, if_neg (show ¬ (9 * i ≤ j ∧ j < 9 * i + (n + 1) ∧ 44 ≤ a ∧ a ≤ 47) by omega)]
section FOLLOW
variable {d b : Nat} {I : Nat → Nat → Int32} {L : Nat → Nat → Int64}
theorem kX10_follow {o i t : Nat} {w : zW} (ho : zhl o) (hw : winv w) (h : hr (zat I o) w) (hi : i < w 2) (ht : t ≤ 8) : zCall (d + 4) mX10_follow [.ref 43, .ref o, .ref 37, .int (nI i), .int (nI t)] (zh b I L) (none, zh b (zfoot I w i t) L) := by
  obtain ⟨⟨a0, a1, a2, a3, a4⟩, a5, a6, a7, a8, a9⟩ := id h
  obtain ⟨⟨w0, w1, w2, w3, w4⟩, -⟩ := id hw
  have ho36 : o + 8 < 37 := by rcases ho with rfl | rfl | rfl | rfl <;> omega
  obtain ⟨c1, c2, c3, c4⟩ := a7 i hi
  have n1 := hw.2.2.2.1 i hi
  refine zCall.of okX10_follow (Nat.le_of_ble_eq_true rfl) ⟨Nat.le_refl _, Nat.le_refl _⟩ (fun G => tX10_follow_0 ho zR0.w ?_)
  have k3 : I (o + 3) i = nI (w (101 + i)) := c1
  have k4 : I (o + 4) i = nI (w (107 + i)) := c2
  rw [zx_nI (by omega), k3, k4, zkn_nat (by omega)]
  refine ⟨zv_in (by omega) (by decide), zv_in (by omega) (by decide), ?_⟩
  have hin : ∀ r, r < w 0 → 9 * i + r < 54 := fun r hr => by omega
  have z0 : ∀ n, zfl I w i t n o 0 = nI (w 0) := fun n => by rw [zfl_ne (by omega)]; exact a0
  have key := z_for (n := w 0) (P := fun r => ∀ k5, k5 < 5 → (r < t → k5 = w (101 + i)) → zA G (d + 4) mX10_follow 29 [some (.ref 43), some (.ref o), some (.ref 37), some (.int (nI i)), some (.int (nI t)), some (.ref (38 + k5)), some (.int (nI (vL w i r))), some (.int (nI (vP w i t r))), some (.int (nI (vT w i t r))), some (.int (nI r)), none, none] [] (zh b (zfl I w i t r) L) (none, zh b (zfoot I w i t) L)) ?_ ?_ 0 (Nat.zero_le _)
  · have := key (w (101 + i)) (by omega) (fun _ => rfl)
    rw [zfl_0] at this
    exact this
  · intro k5 hk5 _
    refine tX10_follow_29 hk5 ho zR0.w ⟨fun _ => ?_, fun q => absurd (by rw [z0]; exact nI_le (Nat.le_refl _) (by omega)) q⟩
    rw [z0, zwayC, zx_nI (by omega), zup_ne (by omega), z0, zwayC, zx_nI (by omega)]
    refine ⟨zv_in (by omega) (by decide), zv_in (by omega) (by decide), ?_⟩
    rintro I4 rfl
    rfl
  · intro r hr ih k5 hk5 hkt
    have hl := vL_lt hw hi r (by omega)
    have hp := vP_le (w := w) (i := i) (t := t) r
    have hG := vG_le hw hi hr
    have hS := vS_le hw hi hr
    have g1 : zfl I w i t r (o + 1) (6 * r + vL w i r) = nI (vS w i r) := by rw [zfl_ne (by omega)]; exact a5 _ (by omega)
    have g2 : zfl I w i t r (o + 2) (6 * r + vL w i r) = nI (vG w i r) := by rw [zfl_ne (by omega)]; exact a6 _ (by omega)
    have go1 : ∀ J : Nat → Nat → Int32, J o = zfl I w i t r o → J o 1 = nI (w 1) := fun J hJ => by rw [hJ, zfl_ne (by omega)]; exact a1
    have go6 : ∀ J : Nat → Nat → Int32, J (o + 6) = zfl I w i t r (o + 6) → J (o + 6) (8 * i + r) = nI (w (119 + 8 * i + r)) := fun J hJ => by rw [hJ, zfl_ne (by omega)]; exact c4 r (by omega)
    have body : ∀ kk, kk = vO w i t r → kk < 5 → ∀ I10 : Nat → Nat → Int32, I10 = zup (zfl I w i t r) 44 (9 * i + r) (nI (vL w i r)) → ∀ I12 : Nat → Nat → Int32, I12 = zup I10 45 (9 * i + r) (zpw kk (nI (vP w i t r)) (nI (vS w i r)) (nI (vG w i r)) (nI r)) → ∀ I14 : Nat → Nat → Int32, I14 = zup I12 46 (9 * i + r) (nI (vT w i t r)) →
        zA G (d + 4) mX10_follow 29 [some (.ref 43), some (.ref o), some (.ref 37), some (.int (nI i)), some (.int (nI t)), some (.ref (38 + kk)), some (.int (zlb (zup I14 47 (9 * i + r) (zhw kk (nI (vG w i r)) (nI (vP w i t r)) (zpw kk (nI (vP w i t r)) (nI (vS w i r)) (nI (vG w i r)) (nI r))) o 1) (nI (vL w i r)) (zup I14 47 (9 * i + r) (zhw kk (nI (vG w i r)) (nI (vP w i t r)) (zpw kk (nI (vP w i t r)) (nI (vS w i r)) (nI (vG w i r)) (nI r))) (o + 6) (8 * i + r)))), some (.int (zpw kk (nI (vP w i t r)) (nI (vS w i r)) (nI (vG w i r)) (nI r))), some (.int (nI (vT w i t r) + ztw kk (nI (vG w i r)) (zpw kk (nI (vP w i t r)) (nI (vS w i r)) (nI (vG w i r)) (nI r)))), some (.int (nI r + 1)), none, none] [] (zh b (zup I14 47 (9 * i + r) (zhw kk (nI (vG w i r)) (nI (vP w i t r)) (zpw kk (nI (vP w i t r)) (nI (vS w i r)) (nI (vG w i r)) (nI r)))) L) (none, zh b (zfoot I w i t) L) := by
      intro kk hkk hk5' I10 h10 I12 h12 I14 h14
      have ep : zpw kk (nI (vP w i t r)) (nI (vS w i r)) (nI (vG w i r)) (nI r) = nI (vP w i t (r + 1)) := by
        rw [zpw_nat hk5' (by omega) (by omega) (by omega) (by omega), hkk]; rfl
      have hp1 := vP_le (w := w) (i := i) (t := t) (r + 1)
      have eh : zhw kk (nI (vG w i r)) (nI (vP w i t r)) (nI (vP w i t (r + 1))) = nI (vH w i t r) := by
        rw [zhw_nat hk5' (by omega) (by omega) (by omega), hkk]; rfl
      have et : nI (vT w i t r) + ztw kk (nI (vG w i r)) (nI (vP w i t (r + 1))) = nI (vT w i t (r + 1)) := by
        rw [ztw_nat hk5' (by omega) (by omega), nI_add, hkk]; rfl
      rw [ep] at h12
      rw [ep, eh, et]
      have eI : zup I14 47 (9 * i + r) (nI (vH w i t r)) = zfl I w i t (r + 1) := by rw [h14, h12, h10]; exact zfl_s
      rw [eI]
      have e1 : zfl I w i t (r + 1) o 1 = nI (w 1) := by rw [zfl_ne (by omega)]; exact a1
      have e6 : zfl I w i t (r + 1) (o + 6) (8 * i + r) = nI (w (119 + 8 * i + r)) := by rw [zfl_ne (by omega)]; exact c4 r (by omega)
      rw [e1, e6, zlb_nat (by omega) (by omega) (by omega) (by have := n1.2.2.2 r (by omega); omega), nI_1]
      refine ih kk hk5' (fun q => ?_)
      rw [hkk]
      unfold vO
      rw [if_neg (by omega)]
    refine tX10_follow_29 hk5 ho zR0.w ⟨fun q => absurd q (by rw [z0]; exact nI_ge hr (by omega)), fun _ => ⟨fun q => ?_, fun q => ?_⟩⟩
    · have hrt : r < t := (nI_ltI (by omega) (by omega)).mp q
      rw [zcellC, zwayC, zlineC, zx_nI (by omega), zx_nI (by omega), zx_nI (by omega), g1, g2]
      refine ⟨zv_in (by omega) (by decide), zv_in (by omega) (by decide), zv_in (by omega) (by decide), zv_in (by omega) (by decide), fun I10 h10 => ⟨zv_in (by omega) (by decide), fun I12 h12 => ⟨zv_in (by omega) (by decide), fun I14 h14 => ⟨zv_in (by omega) (by decide), ?_⟩⟩⟩⟩
      exact body k5 (by rw [hkt hrt]; unfold vO; rw [if_neg (by omega)]) hk5 I10 h10 I12 h12 I14 h14
    · have hrt : ¬ r < t := fun z => q (nI_lt z (by omega))
      rw [zcellC, zwayC, zlineC, zx_nI (by omega), zx_nI (by omega), zx_nI (by omega), g1, g2]
      refine ⟨zv_in (by omega) (by decide), zv_in (by omega) (by decide), zv_in (by omega) (by decide), zv_in (by omega) (by decide), fun I10 h10 => ⟨zv_in (by omega) (by decide), fun I12 h12 => ⟨zv_in (by omega) (by decide), fun I14 h14 => ⟨zv_in (by omega) (by decide), ?_⟩⟩⟩⟩
      exact body 2 (by unfold vO; rw [if_pos (by omega)]) (by decide) I10 h10 I12 h12 I14 h14
end FOLLOW
/-- the reference's way, n rows written -/
def zwk (I : Nat → Nat → Int32) (w : zW) (i t n : Nat) : Nat → Nat → Int32 := fun a j =>
  if a = 63 ∧ j ≤ n then nI (vL w i j) else if a = 64 ∧ j < n then nI (vP w i t (j + 1)) else if a = 65 ∧ j ≤ n then nI (w (113 + i) + vT w i t j) else if a = 66 ∧ j < n then nI (vH w i t j) else I a j
theorem zwk_ne {I : Nat → Nat → Int32} {w : zW} {i t n a : Nat} (h : a < 63 ∨ 66 < a) : zwk I w i t n a = I a := by
  funext j
  simp only [zwk]
  rw [if_neg (by omega), if_neg (by omega), if_neg (by omega), if_neg (by omega)]
theorem zwk_63 {I : Nat → Nat → Int32} {w : zW} {i t n j : Nat} (h : j ≤ n) : zwk I w i t n 63 j = nI (vL w i j) := by
  simp only [zwk]
  rw [if_pos ⟨trivial, h⟩]
theorem zwk_65 {I : Nat → Nat → Int32} {w : zW} {i t n j : Nat} (h : j ≤ n) : zwk I w i t n 65 j = nI (w (113 + i) + vT w i t j) := by
  simp only [zwk]
  rw [if_neg (by omega), if_neg (by omega), if_pos ⟨trivial, h⟩]
theorem zwk_64 {I : Nat → Nat → Int32} {w : zW} {i t n j : Nat} (h : j < n) : zwk I w i t n 64 j = nI (vP w i t (j + 1)) := by
  simp only [zwk]
  rw [if_neg (by omega), if_pos ⟨trivial, h⟩]
theorem zwk_66 {I : Nat → Nat → Int32} {w : zW} {i t n j : Nat} (h : j < n) : zwk I w i t n 66 j = nI (vH w i t j) := by
  simp only [zwk]
  rw [if_neg (by omega), if_neg (by omega), if_neg (by omega), if_pos ⟨trivial, h⟩]
theorem zwk_s {I : Nat → Nat → Int32} {w : zW} {i t n : Nat} : zup (zup (zup (zup (zwk I w i t n) 64 n (nI (vP w i t (n + 1)))) 66 n (nI (vH w i t n))) 65 (n + 1) (nI (w (113 + i) + vT w i t (n + 1)))) 63 (n + 1) (nI (vL w i (n + 1))) = zwk I w i t (n + 1) := by
  funext a j
  by_cases h3 : a = 63
  · subst h3
    simp only [zup, zwk]
    by_cases hj : j = n + 1
    · subst hj; simp
    · rw [if_neg (by omega), if_neg (by omega), if_neg (by omega), if_neg (by omega)]
      by_cases z : j ≤ n
      · rw [if_pos ⟨trivial, z⟩, if_pos ⟨trivial, by omega⟩]
      · rw [if_neg (by omega), if_neg (by omega), if_neg (by omega), if_neg (by omega), if_neg (by omega), if_neg (by omega), if_neg (by omega), if_neg (by omega)]
  · by_cases h4 : a = 64
    · subst h4
      simp only [zup, zwk]
      by_cases hj : j = n
      · subst hj; simp
      · rw [if_neg (by omega), if_neg (by omega), if_neg (by omega), if_neg (by omega), if_neg (by omega)]
        by_cases z : j < n
        · rw [if_pos ⟨trivial, z⟩, if_neg (by omega), if_pos ⟨trivial, by omega⟩]
        · rw [if_neg (by omega), if_neg (by omega), if_neg (by omega), if_neg (by omega), if_neg (by omega), if_neg (by omega), if_neg (by omega)]
    · by_cases h5 : a = 65
      · subst h5
        simp only [zup, zwk]
        by_cases hj : j = n + 1
        · subst hj; simp
        · rw [if_neg (by omega), if_neg (by omega), if_neg (by omega), if_neg (by omega), if_neg (by omega), if_neg (by omega)]
          by_cases z : j ≤ n
          · rw [if_pos ⟨trivial, z⟩, if_neg (by omega), if_neg (by omega), if_pos ⟨trivial, by omega⟩]
          · rw [if_neg (by omega), if_neg (by omega), if_neg (by omega), if_neg (by omega), if_neg (by omega), if_neg (by omega)]
      · by_cases h6 : a = 66
        · subst h6
          simp only [zup, zwk]
          by_cases hj : j = n
          · subst hj; simp
          · rw [if_neg (by omega), if_neg (by omega), if_neg (by omega), if_neg (by omega), if_neg (by omega), if_neg (by omega), if_neg (by omega)]
            by_cases z : j < n
            · rw [if_pos ⟨trivial, z⟩, if_neg (by omega), if_neg (by omega), if_neg (by omega), if_pos ⟨trivial, by omega⟩]
            · rw [if_neg (by omega), if_neg (by omega), if_neg (by omega), if_neg (by omega), if_neg (by omega)]
        · simp only [zup, zwk, h3, h4, h5, h6, false_and, if_false]
section WALK
variable {d b : Nat} {I : Nat → Nat → Int32} {L : Nat → Nat → Int64}
theorem kX12_walk {i t : Nat} {w : zW} (hw : winv w) (h : ∀ k, k < 463 → I 57 k = nI (w k)) (hi : i < w 2) (ht : t ≤ 9) : zCall (d + 2) mX12_walk [.ref 56, .int (nI i), .int (nI t)] (zh b I L) (none, zh b (zwk I w i t (w 0)) L) := by
  obtain ⟨⟨w0, w1, w2, w3, w4⟩, -⟩ := id hw
  have n1 := hw.2.2.2.1 i hi
  have hh : ∀ n k, k < 463 → zwk I w i t n 57 k = nI (w k) := fun n k hk => by rw [zwk_ne (by omega)]; exact h k hk
  refine zCall.of okX12_walk (Nat.le_of_ble_eq_true rfl) ⟨Nat.le_refl _, Nat.le_refl _⟩ (fun G => tX12_walk_0 ?_)
  rw [show (107 : Int32) = nI 107 from rfl, show (113 : Int32) = nI 113 from rfl, nI_add, nI_add, zx_nI (by omega), zx_nI (by omega), h _ (by omega)]
  refine ⟨zv_in (by omega) (by decide), fun I2 h2 => ⟨zv_in (by omega) (by decide), fun I4 h4 => ?_⟩⟩
  have e4 : I4 = zwk I w i t 0 := by
    rw [h4, h2, zup_ne (a := 57) (by decide), h _ (by omega)]
    funext a j
    simp only [zup, zwk]
    by_cases z5 : a = 65 ∧ j = 0
    · obtain ⟨rfl, rfl⟩ := z5; simp; rfl
    · rw [if_neg z5]
      by_cases z3 : a = 63 ∧ j = 0
      · obtain ⟨rfl, rfl⟩ := z3; simp; rfl
      · rw [if_neg z3, if_neg (by omega), if_neg (by omega), if_neg (by omega), if_neg (by omega)]
  rw [e4]
  have key := z_for (n := w 0) (P := fun r => zA G (d + 2) mX12_walk 35 [some (.ref 56), some (.int (nI i)), some (.int (nI t)), some (.int (nI (vP w i t r))), some (.int (nI r)), none, none] [] (zh b (zwk I w i t r) L) (none, zh b (zwk I w i t (w 0)) L)) ?_ ?_ 0 (Nat.zero_le _)
  · exact key
  · exact tX12_walk_35 ⟨fun _ => rfl, fun q => absurd (by rw [hh _ 0 (by decide)]; exact nI_le (Nat.le_refl _) (by omega)) q⟩
  · intro r hr ih
    have hl := vL_lt hw hi r (by omega)
    have hp := vP_le (w := w) (i := i) (t := t) r
    have hG := vG_le hw hi hr
    have hS := vS_le hw hi hr
    have hO := vO_le (t := t) hw hi r
    have hp1 := vP_le (w := w) (i := i) (t := t) (r + 1)
    have body : zA G (d + 2) mX12_walk 67 [some (.ref 56), some (.int (nI i)), some (.int (nI t)), some (.int (nI (vP w i t r))), some (.int (nI r)), some (.int (nI (vO w i t r))), none] [] (zh b (zwk I w i t r) L) (none, zh b (zwk I w i t (w 0)) L) := by
      refine tX12_walk_67 zR0.w ?_
      rw [zx_nI (show r < 2 ^ 31 by omega), zwk_63 (Nat.le_refl r), show (1 : Int32) = nI 1 from rfl, show (0 : Int32) = nI 0 from rfl, zcaR (by decide), zcaR (by decide), if_neg (by decide), if_pos rfl, zx_nI (by omega), zx_nI (by omega), hh r _ (by omega), hh r _ (by omega)]
      have eG : w (53 + (6 * r + vL w i r)) = vG w i r := rfl
      have eS : w (5 + (6 * r + vL w i r)) = vS w i r := rfl
      rw [eG, eS, zpo_nat (by omega) (by omega) (by omega) (by omega) (by omega), show wpc (vO w i t r) (vP w i t r) (vS w i r) (vG w i r) r = vP w i t (r + 1) from rfl, nI_add, zlineR, zx_nI (show r + 1 < 2 ^ 31 by omega), zx_nI (show 119 + 8 * i + r < 2 ^ 31 by omega)]
      refine ⟨zv_in (by omega) (by decide), zv_in (by omega) (by decide), zv_in (by omega) (by decide), zv_in (by omega) (by decide), zv_in (by omega) (by decide), fun I6 h6 => ⟨zv_in (by omega) (by decide), zv_in (by omega) (by decide), fun I9 h9 => ⟨zv_in (by omega) (by decide), zv_in (by omega) (by decide), ?_⟩⟩⟩
      have e64 : I6 64 r = nI (vP w i t (r + 1)) := by rw [h6]; simp [zup]
      rw [e64, zho_nat (by omega) (by omega) (by omega) (by omega), show whm (vO w i t r) (vP w i t r) (vP w i t (r + 1)) (vG w i r) = vH w i t r from rfl] at h9
      have f65 : I9 65 r = nI (w (113 + i) + vT w i t r) := by rw [h9, zup_ne (by decide), h6, zup_ne (by decide)]; exact zwk_65 (Nat.le_refl r)
      have f64 : I9 64 r = nI (vP w i t (r + 1)) := by rw [h9, zup_ne (by decide)]; exact e64
      have hT := vT_le (w := w) (i := i) (t := t) r
      have fin : ∀ x : Int32, x = nI (w (113 + i) + vT w i t (r + 1)) → ∀ I14 : Nat → Nat → Int32, I14 = zup I9 65 (r + 1) x → vp_in (nI r) 9 ∧ (vp_in (nI (119 + 8 * i + r)) 463 ∧ (vp_in (nI (r + 1)) 9 ∧ (∀ I18 : Nat → Nat → Int32, I18 = zup I14 63 (r + 1) (zlb (I14 57 1) (I14 63 r) (I14 57 (119 + 8 * i + r))) → (vp_in (nI r) 8 ∧ zA G (d + 2) mX12_walk 35 [some (.ref 56), some (.int (nI i)), some (.int (nI t)), some (.int (I18 64 r)), some (.int (nI (r + 1))), none, none] [] (zh b I18 L) (none, zh b (zwk I w i t (w 0)) L))))) := by
        intro x hx I14 h14
        refine ⟨zv_in (by omega) (by decide), zv_in (by omega) (by decide), zv_in (by omega) (by decide), fun I18 h18 => ⟨zv_in (by omega) (by decide), ?_⟩⟩
        have q57 : ∀ k, k < 463 → I14 57 k = nI (w k) := fun k hk => by rw [h14, zup_ne (by decide), h9, zup_ne (by decide), h6, zup_ne (by decide)]; exact hh r k hk
        have q63 : I14 63 r = nI (vL w i r) := by rw [h14, zup_ne (by decide), h9, zup_ne (by decide), h6, zup_ne (by decide)]; exact zwk_63 (Nat.le_refl r)
        have q64 : I14 64 r = nI (vP w i t (r + 1)) := by rw [h14, zup_ne (by decide)]; exact f64
        rw [q57 1 (by decide), q63, q57 _ (by omega), zlb_nat (by omega) (by omega) (by omega) (by have := n1.2.2.2 r (by omega); omega)] at h18
        have eI : I18 = zwk I w i t (r + 1) := by rw [h18, h14, h9, h6, hx]; exact zwk_s
        have q18 : I18 64 r = nI (vP w i t (r + 1)) := by rw [h18, zup_ne (by decide)]; exact q64
        rw [q18, eI]
        exact ih
      have tt : ∀ (c : Nat), wtm (vO w i t r) (vP w i t (r + 1)) (vG w i r) = (30 - vP w i t (r + 1)) + c → I9 65 r + 30 - I9 64 r + nI c = nI (w (113 + i) + vT w i t (r + 1)) := by
        intro c hc
        rw [f65, f64, show (30 : Int32) = nI 30 from rfl, nI_add, pk_sub (by omega), nI_add]
        congr 1
        show _ = w (113 + i) + (vT w i t r + wtm (vO w i t r) (vP w i t (r + 1)) (vG w i r))
        rw [hc]
        omega
      have cg : nI (vG w i r) = (2 : Int32) ↔ vG w i r = 2 := nIc (c := 2) (by omega) (by decide)
      have co : nI (vO w i t r) = (2 : Int32) ↔ vO w i t r = 2 := nIc (c := 2) (by omega) (by decide)
      refine ⟨fun q => ⟨zv_in (by omega) (by decide), fun I14 h14 => fin _ (tt 0 ?_) I14 h14⟩, fun q => ⟨fun q2 => ⟨zv_in (by omega) (by decide), fun I14 h14 => fin _ (tt 0 ?_) I14 h14⟩, fun q2 => ⟨zv_in (by omega) (by decide), fun I14 h14 => fin _ (tt 5 ?_) I14 h14⟩⟩⟩
      · unfold wtm; rw [if_neg (fun z => q (cg.mpr z.1))]
      · unfold wtm; rw [if_neg (fun z => z.2 (co.mp q2))]
      · unfold wtm; rw [if_pos ⟨cg.mp q, fun z => q2 (co.mpr z)⟩]
    refine tX12_walk_35 ⟨fun q => absurd q (by rw [hh _ 0 (by decide)]; exact nI_ge hr (by omega)), fun _ => ⟨fun q => ?_, fun q => ?_⟩⟩
    · have hrt : r < t := (nI_ltI (by omega) (by omega)).mp q
      have e : vO w i t r = w (101 + i) := by unfold vO; rw [if_neg (by omega)]
      rw [show (101 : Int32) = nI 101 from rfl, nI_add, zx_nI (by omega), hh r _ (by omega), ← e]
      exact ⟨zv_in (by omega) (by decide), body⟩
    · have hrt : ¬ r < t := fun z => q (nI_lt z (by omega))
      have e : vO w i t r = 2 := by unfold vO; rw [if_pos (by omega)]
      rw [e] at body
      exact body
theorem kX12_walks {i : Nat} {w : zW} (hw : winv w) (h : ∀ k, k < 463 → I 57 k = nI (w k)) (hi : i < w 2) : zCall (d + 3) mX12_walks [.ref 56, .int (nI i)] (zh b I L) (none, zh b (zwk I w i 9 (w 0)) L) :=
  zCall.of okX12_walks (Nat.le_of_ble_eq_true rfl) ⟨Nat.le_refl _, Nat.le_refl _⟩ (fun G => tX12_walks_0 zR0.w ⟨_, kX12_walk hw h hi (Nat.le_refl 9), rfl⟩)
end WALK
