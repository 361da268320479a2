/-! the ambulances: pair waits -/
theorem zct_sh {p : Nat → Bool} : ∀ n, zct p (n + 1) = (if p 0 = true then 1 else 0) + zct (fun j => p (j + 1)) n := by
  intro n
  induction n with
  | zero => simp only [zct]; omega
  | succ n ih =>
    show zct p (n + 1) + (if p (n + 1) = true then 1 else 0) = _ + (zct (fun j => p (j + 1)) n + (if p (n + 1) = true then 1 else 0))
    rw [ih]; omega
theorem zct_upd {p q : Nat → Bool} {e : Nat} (h : ∀ j, j ≠ e → q j = p j) : ∀ n, e < n → zct q n + (if p e = true then 1 else 0) = zct p n + (if q e = true then 1 else 0) := by
  intro n
  induction n with
  | zero => intro he; exact absurd he (Nat.not_lt_zero e)
  | succ n ih =>
    intro he
    show zct q n + (if q n = true then 1 else 0) + _ = zct p n + (if p n = true then 1 else 0) + _
    by_cases z : e = n
    · subst z
      rw [zct_congr (p := q) (q := p) e (fun j hj => h j (by omega))]
      omega
    · have := ih (by omega)
      rw [h n (fun q => z q.symm)]
      omega
/-- the ring turned by one, v put behind -/
def wrg (a v : Nat) (R : Nat → Nat) : Nat → Nat → Nat
  | 0 => R
  | x + 1 => fun j => if j + 1 < a then wrg a v R x (j + 1) else v
def zso2 (a : Nat) (R : Nat → Nat) : Prop := ∀ i j, i ≤ j → j < a → R i ≤ R j
def zcl (a : Nat) (R : Nat → Nat) (M : Nat) : Nat := zct (fun j => decide (R j ≤ M)) a
theorem zcl_ge {a n M : Nat} {R : Nat → Nat} (hs : zso2 a R) (h1 : 1 ≤ n) (hn : n ≤ a) : n ≤ zcl a R M ↔ R (n - 1) ≤ M := by
  constructor
  · intro h
    by_cases z : R (n - 1) ≤ M
    · exact z
    · exfalso
      have e : zcl a R M = zct (fun j => decide (R j ≤ M)) (n - 1) := by
        unfold zcl
        obtain ⟨d, hd⟩ : ∃ d, a = n - 1 + d := ⟨a - (n - 1), by omega⟩
        have : ∀ d, n - 1 + d ≤ a → zct (fun j => decide (R j ≤ M)) (n - 1 + d) = zct (fun j => decide (R j ≤ M)) (n - 1) := by
          intro d
          induction d with
          | zero => intro _; rfl
          | succ d ih =>
            intro hd
            rw [show n - 1 + (d + 1) = (n - 1 + d) + 1 by omega, zct_f (p := fun j => decide (R j ≤ M)) (decide_eq_false (fun y => z (Nat.le_trans (hs (n - 1) (n - 1 + d) (by omega) (by omega)) y)))]
            exact ih (by omega)
        rw [hd]
        exact this d (by omega)
      have := zct_le (p := fun j => decide (R j ≤ M)) (n - 1)
      omega
  · intro h
    have e : zct (fun j => decide (R j ≤ M)) n = n := by
      have : ∀ k, k ≤ n → zct (fun j => decide (R j ≤ M)) k = k := by
        intro k
        induction k with
        | zero => intro _; rfl
        | succ k ih =>
          intro hk
          rw [zct_t (p := fun j => decide (R j ≤ M)) (decide_eq_true (Nat.le_trans (hs k (n - 1) (by omega) (by omega)) h)), ih (by omega)]
      exact this n (Nat.le_refl _)
    have := zct_up (p := fun j => decide (R j ≤ M)) (j := n) (a - n)
    rw [show n + (a - n) = a by omega] at this
    unfold zcl
    omega
theorem wrg_all {a v : Nat} {R : Nat → Nat} (hv : ∀ j, j < a → R j ≤ v) : ∀ x j, j < a → wrg a v R x j ≤ v := by
  intro x
  induction x with
  | zero => exact hv
  | succ x ih =>
    intro j hj
    show (if j + 1 < a then _ else _) ≤ v
    split
    · exact ih _ (by assumption)
    · exact Nat.le_refl _
theorem wrg_so {a v : Nat} {R : Nat → Nat} (hs : zso2 a R) (hv : ∀ j, j < a → R j ≤ v) : ∀ x, zso2 a (wrg a v R x) := by
  intro x
  induction x with
  | zero => exact hs
  | succ x ih =>
    intro i j hij hj
    show (if i + 1 < a then _ else _) ≤ (if j + 1 < a then _ else _)
    by_cases z : j + 1 < a
    · rw [if_pos z, if_pos (by omega)]; exact ih _ _ (by omega) z
    · rw [if_neg z]
      split
      · exact wrg_all hv x _ (by assumption)
      · exact Nat.le_refl _
theorem wrg_lo {a v B h : Nat} {R : Nat → Nat} (hh : h ≤ a) (hb : ∀ j, j < h → R j ≤ B) : ∀ x j, j + x < h → wrg a v R x j ≤ B := by
  intro x
  induction x with
  | zero => intro j hj; exact hb j (by omega)
  | succ x ih =>
    intro j hj
    show (if j + 1 < a then _ else _) ≤ B
    rw [if_pos (by omega)]
    exact ih _ (by omega)
theorem zcl_rg {a v B M : Nat} {R : Nat → Nat} {h : Nat} (ha : 1 ≤ a) (hh : h ≤ a) (hb : ∀ j, j < h → R j ≤ B) (hM : B ≤ M) : ∀ x, x ≤ h → zcl a (wrg a v R x) M + x = zcl a R M + (if v ≤ M then x else 0) := by
  intro x
  induction x with
  | zero => intro _; show zcl a R M + 0 = _; split <;> rfl
  | succ x ih =>
    intro hx
    have h0 := wrg_lo (v := v) hh hb x 0 (by omega)
    obtain ⟨n, rfl⟩ : ∃ n, a = n + 1 := ⟨a - 1, by omega⟩
    have e1 : zcl (n + 1) (wrg (n + 1) v R x) M = 1 + zct (fun j => decide (wrg (n + 1) v R x (j + 1) ≤ M)) n := by
      unfold zcl
      rw [zct_sh, if_pos (decide_eq_true (Nat.le_trans h0 hM))]
    have e2 : zcl (n + 1) (wrg (n + 1) v R (x + 1)) M = zct (fun j => decide (wrg (n + 1) v R x (j + 1) ≤ M)) n + (if v ≤ M then 1 else 0) := by
      show zct (fun j => decide (wrg (n + 1) v R (x + 1) j ≤ M)) n + (if decide (wrg (n + 1) v R (x + 1) n ≤ M) = true then 1 else 0) = _
      rw [zct_congr (p := fun j => decide (wrg (n + 1) v R (x + 1) j ≤ M)) (q := fun j => decide (wrg (n + 1) v R x (j + 1) ≤ M)) n (fun j hj => by
        show decide ((if j + 1 < n + 1 then wrg (n + 1) v R x (j + 1) else v) ≤ M) = _
        rw [if_pos (by omega)])]
      have : wrg (n + 1) v R (x + 1) n = v := by
        show (if n + 1 < n + 1 then _ else v) = v
        rw [if_neg (by omega)]
      rw [this]
      by_cases z : v ≤ M
      · rw [if_pos z, if_pos (decide_eq_true z)]
      · rw [if_neg z, if_neg (fun q => z (of_decide_eq_true q))]
    have := ih (by omega)
    rw [e2]
    rw [e1] at this
    by_cases z : v ≤ M
    · rw [if_pos z] at this ⊢; rw [if_pos z]; omega
    · rw [if_neg z] at this ⊢; rw [if_neg z]; omega
/-- minute, ring, waited, ahead of run k -/
def wwt (w : zW) (a m : Nat) : Nat → Nat × (Nat → Nat) × Nat
  | 0 => (0, fun _ => 0, 0)
  | k + 1 => (max (wwt w a m k).1 ((wwt w a m k).2.1 (max 1 (w (167 + k)) - 1)) + 1, wrg a (max (wwt w a m k).1 ((wwt w a m k).2.1 (max 1 (w (167 + k)) - 1)) + m) (wwt w a m k).2.1 (w (167 + k)), (wwt w a m k).2.2 + (max (wwt w a m k).1 ((wwt w a m k).2.1 (max 1 (w (167 + k)) - 1)) - (wwt w a m k).1))
def wB (w : zW) (a m k : Nat) : Nat := max (wwt w a m k).1 ((wwt w a m k).2.1 (max 1 (w (167 + k)) - 1))
def wTk (w : zW) : Nat → Nat
  | 0 => 0
  | k + 1 => wTk w k + w (167 + k)
theorem wwt_inv {w : zW} {a m n : Nat} (h1 : 1 ≤ a) (hm : m ≤ 99) (hh : ∀ k, k < n → w (167 + k) ≤ a) : ∀ k, k ≤ n → zso2 a (wwt w a m k).2.1 ∧ (∀ j, j < a → (wwt w a m k).2.1 j ≤ (wwt w a m k).1 + m) ∧ (wwt w a m k).1 ≤ 100 * k ∧ (wwt w a m k).2.2 ≤ (wwt w a m k).1 := by
  intro k
  induction k with
  | zero => intro _; exact ⟨fun _ _ _ _ => Nat.le_refl _, fun _ _ => Nat.zero_le _, Nat.zero_le _, Nat.zero_le _⟩
  | succ k ih =>
    intro hk
    obtain ⟨i1, i2, i3, i4⟩ := ih (by omega)
    have hb := hh k (by omega)
    have hB := i2 (max 1 (w (167 + k)) - 1) (by omega)
    simp only [wwt]
    refine ⟨wrg_so i1 (fun j hj => ?_) _, fun j hj => Nat.le_trans (wrg_all (fun j hj => ?_) _ j hj) ?_, ?_, ?_⟩
    · have := i2 j hj; omega
    · have := i2 j hj; omega
    · omega
    · omega
    · omega
def wmh (w : zW) : Nat → Nat
  | 0 => 0
  | k + 1 => max (wmh w k) (w (167 + k))
theorem wmh_le {w : zW} {a : Nat} : ∀ n, wmh w n ≤ a ↔ ∀ k, k < n → w (167 + k) ≤ a := by
  intro n
  induction n with
  | zero => exact ⟨fun _ k hk => absurd hk (Nat.not_lt_zero k), fun _ => Nat.zero_le _⟩
  | succ n ih =>
    show max (wmh w n) (w (167 + n)) ≤ a ↔ _
    constructor
    · intro h k hk
      by_cases z : k = n
      · subst z; omega
      · exact ih.mp (by omega) k (by omega)
    · intro h
      have h1 := ih.mpr (fun k hk => h k (by omega))
      have h2 := h n (by omega)
      omega
section WAITS
variable {d b : Nat} {I : Nat → Nat → Int32} {L : Nat → Nat → Int64}
theorem kX4_mostHurt {q : Nat} {w : zW} (hq : zhl q) (hw : winv w) (h : hr (zat I q) w) : zCall (d + 1) mX4_mostHurt [.ref q] (zh b I L) (some (.int (nI (wmh w (w 3)))), zh b I L) := by
  obtain ⟨⟨w0, w1, w2, w3, w4⟩, -, -, -, a4, -⟩ := id hw
  have e3 : I q 3 = nI (w 3) := h.1.2.2.2.1
  have hle : ∀ k, k ≤ w 3 → wmh w k ≤ 3 := fun k hk => (wmh_le k).mpr (fun j hj => a4 j (by omega))
  refine zCall.of okX4_mostHurt (Nat.le_of_ble_eq_true rfl) ⟨Nat.le_refl _, Nat.le_refl _⟩ (fun G => tX4_mostHurt_0 ?_)
  refine z_for (n := w 3) (P := fun k => zA G (d + 1) mX4_mostHurt 4 [some (.ref q), some (.int (nI (wmh w k))), some (.int (nI k))] [] (zh b I L) _) ?_ ?_ 0 (Nat.zero_le _)
  · exact tX4_mostHurt_4 hq zR0.w ⟨fun _ => rfl, fun y => absurd (by rw [e3]; exact nI_le (Nat.le_refl _) (by omega)) y⟩
  · intro k hk ih
    have b1 := hle k (by omega)
    have b2 := a4 k hk
    refine tX4_mostHurt_4 hq zR0.w ⟨fun y => absurd y (by rw [e3]; exact nI_ge hk (by omega)), fun _ => ⟨zv_in (by omega) (by decide), ?_⟩⟩
    have c : nI (wmh w k) < nI (w (167 + k)) ↔ wmh w k < w (167 + k) := nI_ltI (by omega) (by omega)
    have e : (if nI (wmh w k) < nI (w (167 + k)) then nI (w (167 + k)) else nI (wmh w k)) = nI (wmh w (k + 1)) := by
      show _ = nI (max (wmh w k) (w (167 + k)))
      by_cases z : wmh w k < w (167 + k)
      · rw [if_pos (c.mpr z), show max (wmh w k) (w (167 + k)) = w (167 + k) by omega]
      · rw [if_neg (fun y => z (c.mp y)), show max (wmh w k) (w (167 + k)) = wmh w k by omega]
    rw [zx_nI (by omega), show I (q + 7) k = nI (w (167 + k)) from h.2.2.2.2.1 k hk, e, nI_1]
    exact ih
theorem kX12_there {a M : Nat} {f : Nat → Nat} (ha : a ≤ 3) (hM : M ≤ 2000) (h : ∀ e, e < a → I 73 e = nI (f e)) (hf : ∀ e, e < a → f e ≤ 2000) : zCall d mX12_there [.ref 56, .int (nI a), .int (nI M)] (zh b I L) (some (.int (nI (zcl a f M))), zh b I L) := by
  refine zCall.of okX12_there (Nat.le_of_ble_eq_true rfl) ⟨Nat.le_refl _, Nat.le_refl _⟩ (fun G => tX12_there_0 ?_)
  refine z_for (n := a) (P := fun e => zA G d mX12_there 5 [some (.ref 56), some (.int (nI a)), some (.int (nI M)), some (.int (nI (zct (fun j => decide (f j ≤ M)) e))), some (.int (nI e))] [] (zh b I L) _) ?_ ?_ 0 (Nat.zero_le _)
  · exact tX12_there_5 ⟨fun _ => rfl, fun y => absurd (nI_le (Nat.le_refl _) (by omega)) y⟩
  · intro e he ih
    have := hf e he
    have c : nI M < nI (f e) ↔ M < f e := nI_ltI (by omega) (by omega)
    refine tX12_there_5 ⟨fun y => absurd y (nI_ge he (by omega)), fun _ => ⟨zv_in (by omega) (by decide), ?_⟩⟩
    rw [zx_nI (by omega), h e he, nI_1, nI_1, Int32.add_zero]
    refine ⟨fun y => ?_, fun y => ?_⟩
    · rw [zct_f (p := fun j => decide (f j ≤ M)) (decide_eq_false (by have := c.mp y; omega))] at ih; exact ih
    · rw [zct_t (p := fun j => decide (f j ≤ M)) (decide_eq_true (Nat.le_of_not_lt (fun z => y (c.mpr z))))] at ih; exact ih
end WAITS
