/-! paces, harm, time, steps as numbers -/
theorem nIc {a c : Nat} (ha : a < 2 ^ 31) (hc : c < 2 ^ 31) : nI a = nI c ↔ a = c := nI_eq ha hc
theorem ndiv2 {a : Nat} (ha : a < 2 ^ 31) : nI a / 2 = nI (a / 2) := pk_div (d := 2) ha (by decide) (by decide)
theorem nrem2 {a : Nat} (ha : a < 2 ^ 31) : zrem (nI a) 2 = nI (a % 2) := pk_rem (d := 2) ha (by decide) (by decide)
theorem zcap_nat {a : Nat} (ha : a < 2 ^ 31) : zcap (nI a) = nI (min 20 a) := by
  unfold zcap
  by_cases h : 20 ≤ a
  · rw [if_pos (show (20 : Int32) ≤ nI a from nI_le (a := 20) h ha), Nat.min_eq_left h]; rfl
  · rw [if_neg (show ¬ (20 : Int32) ≤ nI a from nI_ge (a := a) (b := 20) (by omega) (by decide)), Nat.min_eq_right (by omega)]
def wpc (of p s g r : Nat) : Nat := if of = 2 then min 20 ((if g = 1 then (p + s) / 2 else p + s) + 2) else if g = 3 then 0 else if of = 1 then min 20 (if g = 1 then (p + s) / 2 else p + s) else if of = 4 ∧ r % 2 = 1 then min 20 (p + s) else if of = 3 ∧ ¬ min 20 (p + s / 2) ≤ 4 then 4 else min 20 (p + s / 2)
theorem wpc_le (of p s g r : Nat) : wpc of p s g r ≤ 20 := by
  unfold wpc
  repeat' split
  all_goals omega
theorem zpo_nat {of p s g r : Nat} (h1 : of < 1000) (h2 : p < 1000) (h3 : s < 1000) (h4 : g < 1000) (h5 : r < 1000) : zpo (nI of) (nI p) (nI s) (nI g) (nI r) = nI (wpc of p s g r) := by
  have c2 : nI of = (2 : Int32) ↔ of = 2 := nIc (c := 2) (by omega) (by decide)
  have c1 : nI of = (1 : Int32) ↔ of = 1 := nIc (c := 1) (by omega) (by decide)
  have c3 : nI of = (3 : Int32) ↔ of = 3 := nIc (c := 3) (by omega) (by decide)
  have c4 : nI of = (4 : Int32) ↔ of = 4 := nIc (c := 4) (by omega) (by decide)
  have g1 : nI g = (1 : Int32) ↔ g = 1 := nIc (c := 1) (by omega) (by decide)
  have g3 : nI g = (3 : Int32) ↔ g = 3 := nIc (c := 3) (by omega) (by decide)
  have r1 : zrem (nI r) 2 = (1 : Int32) ↔ r % 2 = 1 := by rw [nrem2 (by omega)]; exact nIc (c := 1) (by omega) (by decide)
  have e1 : (if g = 1 then nI ((p + s) / 2) else nI (p + s)) = nI (if g = 1 then (p + s) / 2 else p + s) := by split <;> rfl
  have b1 : (if g = 1 then (p + s) / 2 else p + s) < 2000 := by split <;> omega
  have l4 : zcap (nI (p + s / 2)) ≤ 4 ↔ min 20 (p + s / 2) ≤ 4 := by rw [zcap_nat (by omega)]; exact nI_leI (b := 4) (by omega) (by decide)
  unfold zpo wpc
  simp only [c1, c2, c3, c4, g1, g3, r1, nI_add, ndiv2 (show p + s < 2 ^ 31 by omega), ndiv2 (show s < 2 ^ 31 by omega), e1, l4]
  rw [show (2 : Int32) = nI 2 from rfl, nI_add, zcap_nat (by omega), zcap_nat (by omega), zcap_nat (by omega), zcap_nat (by omega)]
  repeat' split
  all_goals rfl
def whm (of p np g : Nat) : Nat := ((if of = 2 then 1 else 0) + (if g = 1 ∧ ¬ np < 10 then 2 else 0)) + (if g = 3 ∧ ¬ p < 6 ∧ ¬ of = 2 then 3 else 0)
theorem whm_le (of p np g : Nat) : whm of p np g ≤ 6 := by
  unfold whm
  repeat' split
  all_goals omega
theorem zho_nat {of p np g : Nat} (h1 : of < 1000) (h2 : p < 1000) (h3 : np < 1000) (h4 : g < 1000) : zho (nI of) (nI p) (nI np) (nI g) = nI (whm of p np g) := by
  have c2 : nI of = (2 : Int32) ↔ of = 2 := nIc (c := 2) (by omega) (by decide)
  have g1 : nI g = (1 : Int32) ↔ g = 1 := nIc (c := 1) (by omega) (by decide)
  have g3 : nI g = (3 : Int32) ↔ g = 3 := nIc (c := 3) (by omega) (by decide)
  have l1 : nI np < (10 : Int32) ↔ np < 10 := nI_ltI (b := 10) (by omega) (by decide)
  have l2 : nI p < (6 : Int32) ↔ p < 6 := nI_ltI (b := 6) (by omega) (by decide)
  unfold zho whm
  simp only [c2, g1, g3, l1, l2]
  repeat' split
  all_goals rfl
/-- the time in a cell -/
def wtm (of np g : Nat) : Nat := (30 - np) + (if g = 2 ∧ ¬ of = 2 then 5 else 0)
theorem wtm_le {of np g : Nat} : wtm of np g ≤ 35 := by
  unfold wtm
  split <;> omega
theorem wtm_pos {of np g : Nat} (h : np ≤ 20) : 10 ≤ wtm of np g := by
  unfold wtm
  omega
theorem ztw_nat {k np g : Nat} (hk : k < 5) (h1 : np ≤ 30) (h2 : g < 1000) : ztw k (nI g) (nI np) = nI (wtm k np g) := by
  have g2 : nI g = (2 : Int32) ↔ g = 2 := nIc (c := 2) (by omega) (by decide)
  unfold ztw wtm
  simp only [g2]
  rw [show (30 : Int32) = nI 30 from rfl, pk_sub h1]
  by_cases z : g = 2 ∧ k ≠ 2
  · rw [if_pos z, if_pos z, show (5 : Int32) = nI 5 from rfl, nI_add]
  · rw [if_neg z, if_neg z, show (0 : Int32) = nI 0 from rfl, nI_add]
theorem zhw_nat {k p np g : Nat} (hk : k < 5) (h2 : p < 1000) (h3 : np < 1000) (h4 : g < 1000) : zhw k (nI g) (nI p) (nI np) = nI (whm k p np g) := by
  have g1 : nI g = (1 : Int32) ↔ g = 1 := nIc (c := 1) (by omega) (by decide)
  have g3 : nI g = (3 : Int32) ↔ g = 3 := nIc (c := 3) (by omega) (by decide)
  have l1 : (10 : Int32) ≤ nI np ↔ 10 ≤ np := nI_leI (a := 10) (by decide) (by omega)
  have l2 : (6 : Int32) ≤ nI p ↔ 6 ≤ p := nI_leI (a := 6) (by decide) (by omega)
  unfold zhw whm zhm0 zfelt
  simp only [g3]
  by_cases hk2 : k = 2
  · subst hk2
    by_cases h3g : g = 3
    · subst h3g
      simp
      decide
    · simp only [h3g, if_false, if_true, g1, l1, g3, l2, false_and, and_false, not_true_eq_false]
      by_cases h5 : g = 1 ∧ 10 ≤ np
      · rw [if_pos h5, if_pos ⟨h5.1, by omega⟩]; rfl
      · rw [if_neg h5, if_neg (fun z => h5 ⟨z.1, by omega⟩)]; rfl
  · simp only [hk2, if_false, g1, l1, g3, l2]
    by_cases h5 : g = 1 ∧ 10 ≤ np
    · have : ¬ g = 3 := by omega
      rw [if_pos h5, if_pos (show g = 1 ∧ ¬ np < 10 from ⟨h5.1, by omega⟩), if_neg (fun z => this z.1)]; rfl
    · rw [if_neg h5, if_neg (show ¬ (g = 1 ∧ ¬ np < 10) from fun z => h5 ⟨z.1, by omega⟩)]
      by_cases h6 : g = 3 ∧ 6 ≤ p
      · rw [if_pos h6, if_pos ⟨h6.1, by omega, not_false⟩]; rfl
      · rw [if_neg h6, if_neg (fun z => h6 ⟨z.1, by omega⟩)]; rfl
theorem zmin_nat {a : Nat} (ha : a < 2 ^ 31) : (if nI a < 20 then nI a else 20) = nI (min 20 a) := by
  by_cases h : a < 20
  · rw [if_pos (show nI a < (20 : Int32) from nI_lt (b := 20) h (by decide)), Nat.min_eq_right (by omega)]
  · rw [if_neg (show ¬ nI a < (20 : Int32) from nI_nlt (b := 20) (by omega) ha), Nat.min_eq_left (by omega)]; rfl
theorem zpw_nat {k p s g r : Nat} (hk : k < 5) (h2 : p < 1000) (h3 : s < 1000) (h4 : g < 1000) (h5 : r < 1000) : zpw k (nI p) (nI s) (nI g) (nI r) = nI (wpc k p s g r) := by
  have g1 : nI g = (1 : Int32) ↔ g = 1 := nIc (c := 1) (by omega) (by decide)
  have g3 : nI g = (3 : Int32) ↔ g = 3 := nIc (c := 3) (by omega) (by decide)
  have r0 : zrem (nI r) 2 = (0 : Int32) ↔ r % 2 = 0 := by rw [nrem2 (by omega)]; exact nIc (c := 0) (by omega) (by decide)
  have o0 : zop0 (nI p) (nI s) (nI g) = nI (if g = 3 then 0 else p + s / 2) := by
    unfold zop0
    simp only [g3, ndiv2 (show s < 2 ^ 31 by omega), nI_add]
    split <;> rfl
  have o1 : zop1 (nI p) (nI s) (nI g) = nI (if g = 3 then 0 else if g = 1 then (p + s) / 2 else p + s) := by
    unfold zop1
    simp only [g1, g3, o0, ndiv2 (show p + s < 2 ^ 31 by omega), nI_add]
    repeat' split
    all_goals rfl
  have key : ∀ {x y : Nat}, zow k (nI p) (nI s) (nI g) (nI r) = nI x → x < 5000 → min 20 x = y → zpw k (nI p) (nI s) (nI g) (nI r) = nI y := by
    intro x y hx hb hy
    unfold zpw
    rw [hx, zmin_nat (by omega), hy]
  rcases z5 hk with rfl | rfl | rfl | rfl | rfl
  · refine key (x := if g = 3 then 0 else p + s / 2) o0 (by split <;> omega) ?_
    unfold wpc
    repeat' split
    all_goals omega
  · refine key (x := if g = 3 then 0 else if g = 1 then (p + s) / 2 else p + s) o1 (by (repeat' split) <;> omega) ?_
    unfold wpc
    repeat' split
    all_goals omega
  · refine key (x := (if g = 1 then (p + s) / 2 else p + s) + 2) ?_ (by split <;> omega) ?_
    · show zop2 (nI p) (nI s) (nI g) = _
      unfold zop2 zfelt zop1
      simp only [g3]
      by_cases h : g = 3
      · have : ¬ g = 1 := by omega
        simp only [h, if_true, this]
        rw [if_neg (by decide), if_neg (by decide), nI_add, if_neg (by decide), show (2 : Int32) = nI 2 from rfl, nI_add]
      · simp only [h, if_false, g3, g1, ndiv2 (show p + s < 2 ^ 31 by omega), nI_add]
        rw [show (2 : Int32) = nI 2 from rfl]
        split <;> rw [nI_add]
    · unfold wpc
      rw [if_pos rfl]
  · refine key (x := min 4 (if g = 3 then 0 else p + s / 2)) ?_ (by omega) ?_
    · show zop3 (nI p) (nI s) (nI g) = _
      unfold zop3
      rw [o0]
      have hb : (if g = 3 then 0 else p + s / 2) < 5000 := by split <;> omega
      generalize (if g = 3 then 0 else p + s / 2) = x at hb ⊢
      by_cases h : x < 4
      · rw [if_pos (show nI x < (4 : Int32) from nI_lt (b := 4) h (by decide)), Nat.min_eq_right (by omega)]
      · rw [if_neg (show ¬ nI x < (4 : Int32) from nI_nlt (b := 4) (by omega) (by omega)), Nat.min_eq_left (by omega)]; rfl
    · unfold wpc
      repeat' split
      all_goals omega
  · refine key (x := if r % 2 = 0 then (if g = 3 then 0 else p + s / 2) else if g = 3 then 0 else p + s) ?_ (by (repeat' split) <;> omega) ?_
    · show zop4 (nI p) (nI s) (nI g) (nI r) = _
      unfold zop4
      simp only [r0, g3, o0, nI_add]
      repeat' split
      all_goals rfl
    · unfold wpc
      repeat' split
      all_goals omega
def wstp (n l s : Nat) : Nat := if s = 1 ∧ 0 < l then l - 1 else if s = 2 ∧ l + 1 < n then l + 1 else l
theorem wstp_lt {n l s : Nat} (h : l < n) : wstp n l s < n := by
  unfold wstp
  repeat' split
  all_goals omega
theorem zlb_nat {n l s : Nat} (h1 : n < 1000) (h0 : 1 ≤ n) (h2 : l < 1000) (h3 : s < 1000) : zlb (nI n) (nI l) (nI s) = nI (wstp n l s) := by
  have s1 : nI s = (1 : Int32) ↔ s = 1 := nIc (c := 1) (by omega) (by decide)
  have s2 : nI s = (2 : Int32) ↔ s = 2 := nIc (c := 2) (by omega) (by decide)
  have p0 : (0 : Int32) < nI l ↔ 0 < l := nI_ltI (a := 0) (by decide) (by omega)
  have q0 : nI l < nI n - 1 ↔ l + 1 < n := by
    obtain ⟨m, rfl⟩ : ∃ m, n = m + 1 := ⟨n - 1, by omega⟩
    rw [nI_pred, nI_ltI (by omega) (by omega)]; omega
  unfold zlb wstp
  simp only [s1, s2, p0, q0]
  by_cases z1 : s = 1 ∧ 0 < l
  · obtain ⟨m, rfl⟩ : ∃ m, l = m + 1 := ⟨l - 1, by omega⟩
    rw [if_pos z1, if_pos z1, nI_pred]; rfl
  · rw [if_neg z1, if_neg z1]
    by_cases z2 : s = 2 ∧ l + 1 < n
    · rw [if_pos z2, if_pos z2, nI_1]
    · rw [if_neg z2, if_neg z2]
theorem zkn_nat {k : Nat} (h : k < 5) : zkn (nI k) = k := by
  rcases z5 h with rfl | rfl | rfl | rfl | rfl <;> rfl
