/-! THE BEST LINE: what is left to pay, by kind k and weight W -/
def wnp (w : zW) (k r l p : Nat) : Nat := wpc k p (w (5 + (6 * r + l))) (w (53 + (6 * r + l))) r
def wpay (w : zW) (k W r l p : Nat) : Nat := wtm k (wnp w k r l p) (w (53 + (6 * r + l))) + W * whm k p (wnp w k r l p) (w (53 + (6 * r + l)))
def wb3 (a : Nat → Nat) : Nat := if a 1 < a 0 then (if a 2 < a 1 then 2 else 1) else (if a 2 < a 0 then 2 else 0)
theorem wb3_lt (a : Nat → Nat) : wb3 a < 3 := by unfold wb3; (repeat' split) <;> omega
theorem wb3_min (a : Nat → Nat) {s : Nat} (h : s < 3) : a (wb3 a) ≤ a s ∧ (s < wb3 a → a (wb3 a) < a s) := by
  unfold wb3
  rcases (by omega : s = 0 ∨ s = 1 ∨ s = 2) with rfl | rfl | rfl <;> (repeat' split) <;> omega
/-- n rows are left, from row r on -/
def wlf (w : zW) (k W : Nat) : Nat → Nat → Nat → Nat → Nat
  | 0, _, _, _ => 0
  | n + 1, r, l, p => wpay w k W r l p + wlf w k W n (r + 1) (wstp (w 1) l (wb3 (fun s => wlf w k W n (r + 1) (wstp (w 1) l s) (wnp w k r l p)))) (wnp w k r l p)
def wbs (w : zW) (k W n r l p : Nat) : Nat := wb3 (fun s => wlf w k W n (r + 1) (wstp (w 1) l s) p)
theorem wlf_s (w : zW) (k W n r l p : Nat) : wlf w k W (n + 1) r l p = wpay w k W r l p + wlf w k W n (r + 1) (wstp (w 1) l (wbs w k W n r l (wnp w k r l p))) (wnp w k r l p) := rfl
/-- the price of a line, given as a number -/
def wcn (w : zW) (k W : Nat) : Nat → Nat → Nat → Nat → Nat → Nat
  | 0, _, _, _, _ => 0
  | n + 1, r, l, p, q => wpay w k W r l p + wcn w k W n (r + 1) (wstp (w 1) l (q / 3 ^ n)) (wnp w k r l p) (q % 3 ^ n)
/-- the best line as a number -/
def wfb (w : zW) (k W : Nat) : Nat → Nat → Nat → Nat → Nat
  | 0, _, _, _ => 0
  | n + 1, r, l, p => wbs w k W n r l (wnp w k r l p) * 3 ^ n + wfb w k W n (r + 1) (wstp (w 1) l (wbs w k W n r l (wnp w k r l p))) (wnp w k r l p)
section BEST
variable {w : zW} {k W : Nat}
theorem p3 (n : Nat) : 0 < 3 ^ n := Nat.pow_pos (by decide)
theorem wfb_lt : ∀ n r l p, wfb w k W n r l p < 3 ^ n := by
  intro n
  induction n with
  | zero => intro r l p; exact Nat.zero_lt_one
  | succ n ih =>
    intro r l p
    have h1 := ih (r + 1) (wstp (w 1) l (wbs w k W n r l (wnp w k r l p))) (wnp w k r l p)
    have h2 : wbs w k W n r l (wnp w k r l p) ≤ 2 := Nat.le_of_lt_succ (wb3_lt _)
    have h3 : wbs w k W n r l (wnp w k r l p) * 3 ^ n ≤ 2 * 3 ^ n := Nat.mul_le_mul_right _ h2
    show _ * 3 ^ n + _ < 3 ^ (n + 1)
    rw [Nat.pow_succ]
    omega
theorem wfb_div {n r l p : Nat} : wfb w k W (n + 1) r l p / 3 ^ n = wbs w k W n r l (wnp w k r l p) := by
  have h1 := wfb_lt (w := w) (k := k) (W := W) n (r + 1) (wstp (w 1) l (wbs w k W n r l (wnp w k r l p))) (wnp w k r l p)
  show (_ * 3 ^ n + _) / 3 ^ n = _
  rw [Nat.mul_comm, Nat.mul_add_div (p3 n), Nat.div_eq_of_lt h1, Nat.add_zero]
theorem wfb_mod {n r l p : Nat} : wfb w k W (n + 1) r l p % 3 ^ n = wfb w k W n (r + 1) (wstp (w 1) l (wbs w k W n r l (wnp w k r l p))) (wnp w k r l p) := by
  have h1 := wfb_lt (w := w) (k := k) (W := W) n (r + 1) (wstp (w 1) l (wbs w k W n r l (wnp w k r l p))) (wnp w k r l p)
  show (_ * 3 ^ n + _) % 3 ^ n = _
  rw [Nat.mul_comm, Nat.mul_add_mod, Nat.mod_eq_of_lt h1]
theorem wcn_fb : ∀ n r l p, wcn w k W n r l p (wfb w k W n r l p) = wlf w k W n r l p := by
  intro n
  induction n with
  | zero => intro r l p; rfl
  | succ n ih =>
    intro r l p
    show wpay w k W r l p + wcn w k W n (r + 1) (wstp (w 1) l (wfb w k W (n + 1) r l p / 3 ^ n)) (wnp w k r l p) (wfb w k W (n + 1) r l p % 3 ^ n) = _
    rw [wfb_div, wfb_mod, ih, wlf_s]
theorem wcn_ge : ∀ n r l p q, q < 3 ^ n → wlf w k W n r l p ≤ wcn w k W n r l p q ∧ (q < wfb w k W n r l p → wlf w k W n r l p < wcn w k W n r l p q) := by
  intro n
  induction n with
  | zero => intro r l p q hq; exact ⟨Nat.le_refl _, fun h => absurd h (Nat.not_lt_zero q)⟩
  | succ n ih =>
    intro r l p q hq
    have hd : q / 3 ^ n < 3 := by
      rw [Nat.div_lt_iff_lt_mul (p3 n), Nat.mul_comm]
      rw [Nat.pow_succ] at hq
      exact hq
    have hm : q % 3 ^ n < 3 ^ n := Nat.mod_lt q (p3 n)
    obtain ⟨i1, i2⟩ := ih (r + 1) (wstp (w 1) l (q / 3 ^ n)) (wnp w k r l p) (q % 3 ^ n) hm
    obtain ⟨m1, m2⟩ := wb3_min (fun s => wlf w k W n (r + 1) (wstp (w 1) l s) (wnp w k r l p)) hd
    have m1 : wlf w k W n (r + 1) (wstp (w 1) l (wbs w k W n r l (wnp w k r l p))) (wnp w k r l p) ≤ wlf w k W n (r + 1) (wstp (w 1) l (q / 3 ^ n)) (wnp w k r l p) := m1
    have m2 : q / 3 ^ n < wbs w k W n r l (wnp w k r l p) → wlf w k W n (r + 1) (wstp (w 1) l (wbs w k W n r l (wnp w k r l p))) (wnp w k r l p) < wlf w k W n (r + 1) (wstp (w 1) l (q / 3 ^ n)) (wnp w k r l p) := m2
    rw [wlf_s]
    show _ ≤ wpay w k W r l p + wcn w k W n (r + 1) (wstp (w 1) l (q / 3 ^ n)) (wnp w k r l p) (q % 3 ^ n) ∧ (_ → _ < wpay w k W r l p + wcn w k W n (r + 1) (wstp (w 1) l (q / 3 ^ n)) (wnp w k r l p) (q % 3 ^ n))
    refine ⟨by omega, fun hlt => ?_⟩
    by_cases z : q / 3 ^ n < wbs w k W n r l (wnp w k r l p)
    · have := m2 z
      omega
    · have hq2 := Nat.div_add_mod q (3 ^ n)
      have hf : wfb w k W (n + 1) r l p = wbs w k W n r l (wnp w k r l p) * 3 ^ n + wfb w k W n (r + 1) (wstp (w 1) l (wbs w k W n r l (wnp w k r l p))) (wnp w k r l p) := rfl
      have hb := wfb_lt (w := w) (k := k) (W := W) n (r + 1) (wstp (w 1) l (wbs w k W n r l (wnp w k r l p))) (wnp w k r l p)
      have he : q / 3 ^ n = wbs w k W n r l (wnp w k r l p) := by
        have h1 : q / 3 ^ n ≤ wfb w k W (n + 1) r l p / 3 ^ n := Nat.div_le_div_right (by omega)
        rw [wfb_div] at h1
        omega
      rw [he] at i1 i2 hq2 ⊢
      have := i2 (by rw [Nat.mul_comm] at hq2; omega)
      omega
theorem wnp_le {r l p : Nat} : wnp w k r l p ≤ 20 := wpc_le _ _ _ _ _
theorem wpay_le {r l p : Nat} (hW : W ≤ 20) : wpay w k W r l p ≤ 155 := by
  have h1 : wtm k (wnp w k r l p) (w (53 + (6 * r + l))) ≤ 35 := wtm_le
  have h2 := whm_le k p (wnp w k r l p) (w (53 + (6 * r + l)))
  have h3 : W * whm k p (wnp w k r l p) (w (53 + (6 * r + l))) ≤ 20 * 6 := Nat.mul_le_mul hW h2
  unfold wpay
  omega
theorem wlf_le (hW : W ≤ 20) : ∀ n r l p, wlf w k W n r l p ≤ 155 * n := by
  intro n
  induction n with
  | zero => intro r l p; exact Nat.le_refl _
  | succ n ih =>
    intro r l p
    rw [wlf_s]
    have h1 := wpay_le (w := w) (k := k) (r := r) (l := l) (p := p) hW
    have h2 := ih (r + 1) (wstp (w 1) l (wbs w k W n r l (wnp w k r l p))) (wnp w k r l p)
    omega
theorem wlf_pos {n r l p : Nat} : 10 ≤ wlf w k W (n + 1) r l p := by
  rw [wlf_s]
  have : 10 ≤ wtm k (wnp w k r l p) (w (53 + (6 * r + l))) := wtm_pos wnp_le
  unfold wpay
  omega
end BEST
/-- the lines of runner i laid by a number -/
def wln (w : zW) (i q : Nat) : zW := fun j => if 119 + 8 * i ≤ j ∧ j < 119 + 8 * i + w 0 then q / 3 ^ (w 0 - 1 - (j - 119 - 8 * i)) % 3 else w j
theorem wln_ne {w : zW} {i q j : Nat} (h : ¬ (119 + 8 * i ≤ j ∧ j < 119 + 8 * i + w 0)) : wln w i q j = w j := if_neg h
theorem wln_in {w : zW} {i q r : Nat} (h : r < w 0) : wln w i q (119 + 8 * i + r) = q / 3 ^ (w 0 - 1 - r) % 3 := by
  unfold wln
  rw [if_pos (by omega), show 119 + 8 * i + r - 119 - 8 * i = r by omega]
theorem winv_ln {w : zW} {i q : Nat} (h : winv w) (hi : i < w 2) : winv (wln w i q) := by
  obtain ⟨⟨w0, w1, w2, w3, w4⟩, a1, a2, a3, a4, a5⟩ := id h
  have n : ∀ j, j < 119 → wln w i q j = w j := fun j hj => wln_ne (by omega)
  have n' : ∀ j, 167 ≤ j → wln w i q j = w j := fun j hj => wln_ne (by omega)
  unfold winv
  rw [n 0 (by omega), n 1 (by omega), n 2 (by omega), n 3 (by omega), n 4 (by omega)]
  refine ⟨⟨w0, w1, w2, w3, w4⟩, fun c hc => by rw [n _ (by omega)]; exact a1 c hc, fun c hc => by rw [n _ (by omega)]; exact a2 c hc, fun j hj => ⟨by rw [n _ (by omega)]; exact (a3 j hj).1, by rw [n _ (by omega)]; exact (a3 j hj).2.1, by rw [n _ (by omega)]; exact (a3 j hj).2.2.1, fun r hr => ?_⟩, fun m hm => by rw [n' _ (by omega)]; exact a4 m hm, fun m hm => by rw [n' _ (by omega)]; exact a5 m hm⟩
  unfold wln
  split
  · have := Nat.mod_lt (q / 3 ^ (w 0 - 1 - (119 + 8 * j + r - 119 - 8 * i))) (show 0 < 3 by decide)
    omega
  · exact (a3 j hj).2.2.2 r hr
theorem dig3 (q n : Nat) : q % 3 ^ (n + 1) / 3 ^ n = q / 3 ^ n % 3 := by rw [Nat.pow_succ, Nat.mod_mul_right_div_self]
theorem mod3 (q n : Nat) : q % 3 ^ (n + 1) % 3 ^ n = q % 3 ^ n := by rw [Nat.pow_succ, Nat.mod_mul_right_mod]
theorem wln_cost {w : zW} {i W q : Nat} (hw : winv w) (hi : i < w 2) : ∀ n r, n + r = w 0 → vT (wln w i q) i 9 r + W * vHs (wln w i q) i 9 r + wcn w (w (101 + i)) W n r (vL (wln w i q) i r) (vP (wln w i q) i 9 r) (q % 3 ^ n) = wcost (wln w i q) i W 9 := by
  have w0 := hw.1.1
  have w1 := hw.1.2.1
  have w2 := hw.1.2.2.1
  have hv := winv_ln (q := q) hw hi
  have n : ∀ j, j < 119 → wln w i q j = w j := fun j hj => wln_ne (by omega)
  intro m
  induction m with
  | zero =>
    intro r hr
    have : r = w 0 := by omega
    subst this
    unfold wcost
    rw [n 0 (by omega)]
    rfl
  | succ m ih =>
    intro r hr
    rw [← ih (r + 1) (by omega)]
    have hl := vL_lt hv (by rw [n 2 (by omega)]; exact hi) r (by rw [n 0 (by omega)]; omega)
    rw [n 1 (by omega)] at hl
    have eG : vG (wln w i q) i r = w (53 + (6 * r + vL (wln w i q) i r)) := n _ (by omega)
    have eS : vS (wln w i q) i r = w (5 + (6 * r + vL (wln w i q) i r)) := n _ (by omega)
    have eO : vO (wln w i q) i 9 r = w (101 + i) := by unfold vO; rw [if_neg (by omega), n _ (by omega)]
    have eP : vP (wln w i q) i 9 (r + 1) = wnp w (w (101 + i)) r (vL (wln w i q) i r) (vP (wln w i q) i 9 r) := by
      show wpc (vO (wln w i q) i 9 r) (vP (wln w i q) i 9 r) (vS (wln w i q) i r) (vG (wln w i q) i r) r = _
      rw [eO, eS, eG]; rfl
    have eT : vT (wln w i q) i 9 (r + 1) = vT (wln w i q) i 9 r + wtm (w (101 + i)) (wnp w (w (101 + i)) r (vL (wln w i q) i r) (vP (wln w i q) i 9 r)) (w (53 + (6 * r + vL (wln w i q) i r))) := by
      show vT (wln w i q) i 9 r + wtm (vO (wln w i q) i 9 r) (vP (wln w i q) i 9 (r + 1)) (vG (wln w i q) i r) = _
      rw [eO, eG, eP]
    have eH : vHs (wln w i q) i 9 (r + 1) = vHs (wln w i q) i 9 r + whm (w (101 + i)) (vP (wln w i q) i 9 r) (wnp w (w (101 + i)) r (vL (wln w i q) i r) (vP (wln w i q) i 9 r)) (w (53 + (6 * r + vL (wln w i q) i r))) := by
      show vHs (wln w i q) i 9 r + whm (vO (wln w i q) i 9 r) (vP (wln w i q) i 9 r) (vP (wln w i q) i 9 (r + 1)) (vG (wln w i q) i r) = _
      rw [eO, eG, eP]
    have eL : vL (wln w i q) i (r + 1) = wstp (w 1) (vL (wln w i q) i r) (q / 3 ^ m % 3) := by
      show wstp (wln w i q 1) (vL (wln w i q) i r) (wln w i q (119 + 8 * i + r)) = _
      rw [n 1 (by omega), wln_in (by omega), show w 0 - 1 - r = m by omega]
    show _ + _ + (wpay w (w (101 + i)) W r (vL (wln w i q) i r) (vP (wln w i q) i 9 r) + wcn w (w (101 + i)) W m (r + 1) (wstp (w 1) (vL (wln w i q) i r) (q % 3 ^ (m + 1) / 3 ^ m)) (wnp w (w (101 + i)) r (vL (wln w i q) i r) (vP (wln w i q) i 9 r)) (q % 3 ^ (m + 1) % 3 ^ m)) = _
    rw [eT, eH, eL, eP, dig3, mod3, Nat.mul_add]
    unfold wpay
    omega
theorem wln_cost0 {w : zW} {i W q : Nat} (hw : winv w) (hi : i < w 2) (hq : q < 3 ^ w 0) : wcost (wln w i q) i W 9 = wcn w (w (101 + i)) W (w 0) 0 (w (107 + i)) 0 q := by
  have w2 := hw.1.2.2.1
  have := wln_cost (W := W) (q := q) hw hi (w 0) 0 (Nat.add_zero _)
  rw [← this, Nat.mod_eq_of_lt hq, show vL (wln w i q) i 0 = w (107 + i) from wln_ne (by omega)]
  show 0 + W * 0 + wcn w (w (101 + i)) W (w 0) 0 (w (107 + i)) 0 q = _
  omega
/-- the runner's own line as a number -/
def wws (w : zW) (i : Nat) : Nat → Nat
  | 0 => 0
  | n + 1 => 3 * wws w i n + w (119 + 8 * i + n)
theorem wws_lt {w : zW} {i : Nat} : ∀ n, (∀ r, r < n → w (119 + 8 * i + r) ≤ 2) → wws w i n < 3 ^ n := by
  intro n
  induction n with
  | zero => intro _; exact Nat.zero_lt_one
  | succ n ih =>
    intro h
    have h1 := ih (fun r hr => h r (by omega))
    have h2 := h n (by omega)
    show 3 * wws w i n + _ < 3 ^ (n + 1)
    rw [Nat.pow_succ]
    omega
theorem wws_dig {w : zW} {i : Nat} : ∀ n, (∀ r, r < n → w (119 + 8 * i + r) ≤ 2) → ∀ r, r < n → wws w i n / 3 ^ (n - 1 - r) % 3 = w (119 + 8 * i + r) := by
  intro n
  induction n with
  | zero => intro _ r hr; exact absurd hr (Nat.not_lt_zero r)
  | succ n ih =>
    intro h r hr
    have h2 := h n (by omega)
    by_cases z : r = n
    · subst z
      rw [show r + 1 - 1 - r = 0 by omega, Nat.pow_zero, Nat.div_one]
      show (3 * wws w i r + w (119 + 8 * i + r)) % 3 = _
      omega
    · have h1 := ih (fun r hr => h r (by omega)) r (by omega)
      rw [show n + 1 - 1 - r = (n - 1 - r) + 1 by omega, Nat.pow_succ, Nat.mul_comm, ← Nat.div_div_eq_div_mul]
      show (3 * wws w i n + w (119 + 8 * i + n)) / 3 / _ % 3 = _
      rw [show (3 * wws w i n + w (119 + 8 * i + n)) / 3 = wws w i n by omega]
      exact h1
theorem wln_own {w : zW} {i : Nat} (hw : winv w) (hi : i < w 2) : wln w i (wws w i (w 0)) = w := by
  have w0 := hw.1.1
  funext j
  unfold wln
  by_cases z : 119 + 8 * i ≤ j ∧ j < 119 + 8 * i + w 0
  · rw [if_pos z, wws_dig (w 0) (fun r hr => (hw.2.2.2.1 i hi).2.2.2 r (by omega)) _ (by omega), show 119 + 8 * i + (j - 119 - 8 * i) = j by omega]
  · rw [if_neg z]
