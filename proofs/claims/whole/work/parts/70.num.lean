/-! NUMBERS, stops and words -/
theorem zrn_all (t : Nat × zW) (k : Nat) : ∀ f p j, p ≤ j → j < zrn t k f p → ztb (t.2 j) = k := by
  intro f
  induction f with
  | zero => intro p j h1 h2; exact absurd h2 (by show ¬ j < p; omega)
  | succ f ih =>
    intro p j h1 h2
    simp only [zrn] at h2
    by_cases z : ztb (t.2 p) = k
    · rw [if_pos z] at h2
      by_cases y : j = p
      · subst y; exact z
      · exact ih (p + 1) j (by omega) h2
    · rw [if_neg z] at h2; omega
theorem tk_all {t : Nat × zW} {p : Nat} (h : tk t p = 1 ∨ tk t p = 2) : ∀ j, tq t p ≤ j → j < te t p → ztb (t.2 j) = tk t p := by
  intro j h1 h2
  unfold te teq at h2
  have e : tkq t (tq t p) = tk t p := rfl
  rw [e, if_neg (by omega), if_pos h] at h2
  by_cases y : j = tq t p
  · subst y
    have hlt : tq t p < t.1 := by
      by_cases z : tq t p < t.1
      · exact z
      · have := tkq_0.mpr (Nat.le_of_not_lt z); omega
    rw [← e]; unfold tkq; rw [if_pos hlt]
  · exact zrn_all t _ _ _ j (by omega) h2
theorem ztb_2 {c : Nat} (h : ztb c = 2) : 48 ≤ c ∧ c ≤ 57 := by unfold ztb at h; (repeat' split at h) <;> omega
theorem ztb_1 {c : Nat} (h : ztb c = 1) : 97 ≤ c ∧ c ≤ 122 := by unfold ztb at h; (repeat' split at h) <;> omega
/-- a number of the text, from lo on, below hx -/
def tn (t : Nat × zW) (p : Nat) : Nat := znv t (tq t p) (te t p - tq t p)
def sN (t : Nat × zW) (lo hx p : Nat) : Option Nat := if tk t p = 2 ∧ te t p - tq t p ≤ 2 ∧ lo ≤ tn t p ∧ tn t p < hx then some (tn t p) else none
def znI (o : Option Nat) : Int32 := match o with | some v => nI v | none => -1
theorem tn_le {t : Nat × zW} {p : Nat} (h : tk t p = 2) (h2 : te t p - tq t p ≤ 2) : tn t p ≤ 99 := by
  have ha := tk_all (Or.inr h)
  unfold tn
  have h0 : ∀ j, j < te t p - tq t p → t.2 (tq t p + j) - 48 ≤ 9 := fun j hj => by
    have := ztb_2 ((ha (tq t p + j) (by omega) (by omega)).trans h)
    omega
  rcases (by omega : te t p - tq t p = 0 ∨ te t p - tq t p = 1 ∨ te t p - tq t p = 2) with e | e | e <;> rw [e]
  · exact Nat.zero_le _
  · have := h0 0 (by omega)
    simp only [znv]
    omega
  · have := h0 0 (by omega)
    have := h0 1 (by omega)
    simp only [znv]
    omega
theorem sN_some {t : Nat × zW} {lo hx p v : Nat} (h : sN t lo hx p = some v) : v = tn t p ∧ tk t p = 2 ∧ te t p - tq t p ≤ 2 ∧ lo ≤ v ∧ v < hx ∧ v ≤ 99 := by
  unfold sN at h
  by_cases z : tk t p = 2 ∧ te t p - tq t p ≤ 2 ∧ lo ≤ tn t p ∧ tn t p < hx
  · rw [if_pos z] at h
    have h := Option.some.inj h
    have := tn_le z.1 z.2.1
    subst h
    exact ⟨rfl, z.1, z.2.1, z.2.2.1, z.2.2.2, this⟩
  · rw [if_neg z] at h; exact absurd h (by intro q; cases q)
theorem znI_ne {t : Nat × zW} {lo hx p v : Nat} (h : sN t lo hx p = some v) : ¬ nI v = -1 := by
  have := (sN_some h).2.2.2.2.2
  intro q
  have q := congrArg Int32.toInt q
  rw [nI_toInt (by omega), show (-1 : Int32).toInt = -1 from rfl] at q
  omega
section NUM
variable {d b : Nat} {I : Nat → Nat → Int32} {L : Nat → Nat → Int64}
theorem kX7_nextNumber {t : Nat × zW} {p lo hx : Nat} {x2 : Int32} (hw : zTw t) (ht : zTc I t) (hp : p ≤ t.1) (h3 : I 53 3 = nI p) (hlo : lo ≤ 1000) (hx2 : x2.toInt = (hx : Int) - 1) : ∃ J, z53 I J ∧ J 53 2 = nI (tq t p) ∧ J 53 3 = nI (te t p) ∧ zCall (d + 2) mX7_nextNumber [.ref 53, .int (nI lo), .int x2] (zh b I L) (some (.int (znI (sN t lo hx p))), zh b J L) := by
  obtain ⟨J, g1, g2, g3, g4, g5⟩ := kX7_nextToken (d := d) (b := b) (L := L) hw ht hp h3
  obtain ⟨h250, h256⟩ := id hw
  have hq := te_le hp
  have hk4 := tkq_le t (tq t p)
  have ck : nI (tk t p) = 2 ↔ tk t p = 2 := nIc (c := 2) (by show tkq t (tq t p) < _; omega) (by decide)
  have tc := g1.tc ht
  refine ⟨J, g1, g2, g3, zCall.of okX7_nextNumber (Nat.le_of_ble_eq_true rfl) ⟨Nat.le_refl _, Nat.le_refl _⟩ (fun G => tX7_nextNumber_0 zR0.w ⟨J, g5, ?_⟩)⟩
  rw [g2, g3, g4, ck, pk_sub (by omega)]
  have c2 : nI (te t p - tq t p) ≤ 2 ↔ te t p - tq t p ≤ 2 := nI_leI (b := 2) (by omega) (by decide)
  have no : ¬ (tk t p = 2 ∧ te t p - tq t p ≤ 2 ∧ lo ≤ tn t p ∧ tn t p < hx) → ((some (.int (znI (sN t lo hx p))), zh b J L) : zR) = (some (.int (-1)), zh b J L) := fun h => by unfold sN; rw [if_neg h]; rfl
  refine ⟨fun q => no (fun z => q z.1), fun k2 => ⟨fun q => ?_, fun q => no (fun z => q (c2.mpr z.2.1))⟩⟩
  have l2 := c2.mp q
  have ha := tk_all (Or.inr k2)
  refine z_for (n := te t p - tq t p) (P := fun j => zA G (d + 2) mX7_nextNumber 38 [some (.ref 53), some (.int (nI lo)), some (.int x2), some (.int (nI (te t p - tq t p))), some (.int (nI (znv t (tq t p) j))), some (.int (nI (tq t p + j)))] [] (zh b J L) _) ?_ ?_ 0 (Nat.zero_le _)
  · have hv := tn_le k2 l2
    have ev : znv t (tq t p) (te t p - tq t p) = tn t p := rfl
    rw [ev, show tq t p + (te t p - tq t p) = te t p by omega]
    have cr : (nI lo ≤ nI (tn t p) ∧ nI (tn t p) ≤ x2) ↔ (lo ≤ tn t p ∧ tn t p < hx) := by
      rw [nI_leI (by omega) (by omega), Int32.le_iff_toInt_le, nI_toInt (by omega), hx2]
      omega
    refine tX7_nextNumber_38 zR0.w ⟨fun _ => ?_, fun z => absurd (by rw [g3]; exact nI_le (Nat.le_refl _) (by omega)) z⟩
    rw [cr]
    refine ⟨fun z => no (fun y => z y.2.2), fun z => ?_⟩
    unfold sN
    rw [if_pos ⟨k2, l2, z⟩]
    rfl
  · intro j hj ih
    have h48 := ztb_2 ((ha (tq t p + j) (by omega) (by omega)).trans k2)
    refine tX7_nextNumber_38 zR0.w ⟨fun z => absurd z (by rw [g3]; exact nI_ge (by omega) (by omega)), fun _ => ?_⟩
    rw [zx_nI (by omega), tc.2 _ (by omega), show (10 : Int32) = nI 10 from rfl, pk_mul, nI_add, show (48 : Int32) = nI 48 from rfl, pk_sub (by omega), nI_1, show 10 * znv t (tq t p) j + t.2 (tq t p + j) - 48 = znv t (tq t p) (j + 1) by show _ = 10 * znv t (tq t p) j + (t.2 (tq t p + j) - 48); omega]
    exact ⟨zv_in (by omega) (by decide), ih⟩
theorem kX7_nextIsSemicolon {t : Nat × zW} {p : Nat} (hw : zTw t) (ht : zTc I t) (hp : p ≤ t.1) (h3 : I 53 3 = nI p) : ∃ J, z53 I J ∧ J 53 2 = nI (tq t p) ∧ J 53 3 = nI (te t p) ∧ zCall (d + 2) mX7_nextIsSemicolon [.ref 53] (zh b I L) (some (.int (zB (decide (tk t p = 3)))), zh b J L) := by
  obtain ⟨J, g1, g2, g3, g4, g5⟩ := kX7_nextToken (d := d) (b := b) (L := L) hw ht hp h3
  have hk4 := tkq_le t (tq t p)
  have ck : nI (tk t p) = 3 ↔ tk t p = 3 := nIc (c := 3) (by show tkq t (tq t p) < _; omega) (by decide)
  refine ⟨J, g1, g2, g3, zCall.of okX7_nextIsSemicolon (Nat.le_of_ble_eq_true rfl) ⟨Nat.le_refl _, Nat.le_refl _⟩ (fun G => tX7_nextIsSemicolon_0 zR0.w ⟨J, g5, ?_⟩)⟩
  rw [g4, ck]
  exact ⟨fun q => by rw [decide_eq_false q]; rfl, fun q => by rw [decide_eq_true q]; rfl⟩
theorem kX12_takes {t : Nat × zW} {p lo hx : Nat} {x2 : Int32} (hw : zTw t) (ht : zTr I t) (hp : p ≤ t.1) (h9 : I 56 9 = nI p) (hlo : lo ≤ 1000) (hhx : hx ≤ 1000) (hx2 : x2.toInt = (hx : Int) - 1) : ∃ J M, z56 I J ∧ z56L L M ∧ J 56 10 = nI (tq t p) ∧ (∀ v, sN t lo hx p = some v → J 56 9 = nI (te t p) ∧ M 56 12 = lN v) ∧ zCall (d + 2) mX12_takes [.ref 56, .int (nI lo), .int x2] (zh b I L) (some (.int (zB (sN t lo hx p).isSome)), zh b J M) := by
  obtain ⟨J, M, g1, g2, g3, g4, g5, g6, g7⟩ := kX12_next (d := d) (b := b) (L := L) hw ht hp h9
  have hk4 := tkq_le t (tq t p)
  have ck : nI (tk t p) = 2 ↔ tk t p = 2 := nIc (c := 2) (by show tkq t (tq t p) < _; omega) (by decide)
  have vl : tk t p = 2 → M 56 12 = znl t (tq t p) (te t p - tq t p) := fun k2 => by
    rw [g6]
    unfold zvl
    rw [show tkq t (tq t p) = 2 from k2, if_neg (by decide), if_pos rfl]
    rfl
  refine ⟨J, M, g1, g2, g4, fun v hv => ?_, zCall.of okX12_takes (Nat.le_of_ble_eq_true rfl) ⟨Nat.le_refl _, Nat.le_refl _⟩ (fun G => tX12_takes_0 zR0.w ⟨J, M, g7, ?_⟩)⟩
  · obtain ⟨s1, s2, s3, s4, s5, s6⟩ := sN_some hv
    refine ⟨?_, ?_⟩
    · rw [g3]; unfold teR; rw [show tkq t (tq t p) = 2 from s2, if_neg (by decide)]; rfl
    · rw [vl s2]; unfold znl; rw [if_pos s3, s1]; rfl
  · rw [g5, ck]
    refine ⟨fun q => ?_, fun k2 => ?_⟩
    · unfold sN; rw [if_neg (fun z => q z.1)]; rfl
    · rw [vl k2]
      have cr : ((nI lo).toInt64 ≤ znl t (tq t p) (te t p - tq t p) ∧ znl t (tq t p) (te t p - tq t p) ≤ x2.toInt64) ↔ (te t p - tq t p ≤ 2 ∧ lo ≤ tn t p ∧ tn t p < hx) := by
        unfold znl
        by_cases l2 : te t p - tq t p ≤ 2
        · have hv := tn_le k2 l2
          rw [if_pos l2, Int64.le_iff_toInt_le, Int64.le_iff_toInt_le, Int32.toInt_toInt64, Int32.toInt_toInt64, nI_toInt (by omega), show znv t (tq t p) (te t p - tq t p) = tn t p from rfl, lN_toInt (by omega), hx2]
          omega
        · rw [if_neg l2, Int64.le_iff_toInt_le, Int64.le_iff_toInt_le, Int32.toInt_toInt64, Int32.toInt_toInt64, nI_toInt (by omega), show (100000 : Int64).toInt = 100000 from rfl, hx2]
          omega
      rw [cr]
      refine ⟨fun q => ?_, fun q => ?_⟩
      · unfold sN; rw [if_neg (fun z => q z.2)]; rfl
      · unfold sN; rw [if_pos ⟨k2, q⟩]; rfl
theorem kX12_stops {t : Nat × zW} {p : Nat} (hw : zTw t) (ht : zTr I t) (hp : p ≤ t.1) (h9 : I 56 9 = nI p) : ∃ J M, z56 I J ∧ z56L L M ∧ J 56 10 = nI (tq t p) ∧ (tk t p = 3 → J 56 9 = nI (te t p)) ∧ zCall (d + 2) mX12_stops [.ref 56] (zh b I L) (some (.int (zB (decide (tk t p = 3)))), zh b J M) := by
  obtain ⟨J, M, g1, g2, g3, g4, g5, g6, g7⟩ := kX12_next (d := d) (b := b) (L := L) hw ht hp h9
  have hk4 := tkq_le t (tq t p)
  have ck : nI (tk t p) = 3 ↔ tk t p = 3 := nIc (c := 3) (by show tkq t (tq t p) < _; omega) (by decide)
  refine ⟨J, M, g1, g2, g4, fun k3 => ?_, zCall.of okX12_stops (Nat.le_of_ble_eq_true rfl) ⟨Nat.le_refl _, Nat.le_refl _⟩ (fun G => tX12_stops_0 zR0.w ⟨J, M, g7, ?_⟩)⟩
  · rw [g3]; unfold teR; rw [show tkq t (tq t p) = 3 from k3, if_neg (by decide)]; rfl
  · rw [g5, ck]
    exact ⟨fun q => by rw [decide_eq_false q]; rfl, fun q => by rw [decide_eq_true q]; rfl⟩
end NUM
/-! words -/
def isW (t : Nat × zW) (k p : Nat) : Bool := zisw t.2 k (tk t p) (tq t p) (te t p)
def zcode (k : Nat) : Nat := [271756, 20332037, 254268868, 626473138, 402885].getD k 0
def encR : List Nat → Nat
  | [] => 0
  | x :: r => 32 * encR r + x
theorem zw_enc {t : Nat × zW} {q : Nat} : ∀ (W : List Nat), (∀ x, x ∈ W → 1 ≤ x ∧ x ≤ 26) → ∀ m, (∀ j, j < m → 97 ≤ t.2 (q + j) ∧ t.2 (q + j) ≤ 122) → (zwv t q m = encR W ↔ (m = W.length ∧ ∀ j, j < m → t.2 (q + j) = W.getD (m - 1 - j) 0 + 96)) := by
  intro W
  induction W with
  | nil =>
    intro _ m hl
    cases m with
    | zero => exact ⟨fun _ => ⟨rfl, fun j hj => absurd hj (Nat.not_lt_zero j)⟩, fun _ => rfl⟩
    | succ m =>
      have := hl m (Nat.lt_succ_self m)
      constructor
      · intro h
        have h : 32 * zwv t q m + (t.2 (q + m) - 96) = 0 := h
        omega
      · intro h
        exact absurd h.1 (by show ¬ m + 1 = 0; omega)
  | cons x r ih =>
    intro hW m hl
    have hx := hW x (List.mem_cons_self ..)
    cases m with
    | zero =>
      constructor
      · intro h
        have h : 0 = 32 * encR r + x := h
        omega
      · intro h
        exact absurd h.1 (by show ¬ 0 = r.length + 1; omega)
    | succ m =>
      have hm := hl m (Nat.lt_succ_self m)
      have ih := ih (fun y hy => hW y (List.mem_cons_of_mem _ hy)) m (fun j hj => hl j (by omega))
      have e : zwv t q (m + 1) = encR (x :: r) ↔ (zwv t q m = encR r ∧ t.2 (q + m) = x + 96) := by
        show 32 * zwv t q m + (t.2 (q + m) - 96) = 32 * encR r + x ↔ _
        constructor
        · intro h
          have h1 : zwv t q m = encR r := by omega
          exact ⟨h1, by omega⟩
        · rintro ⟨h1, h2⟩
          omega
      rw [e, ih]
      constructor
      · rintro ⟨⟨h1, h2⟩, h3⟩
        refine ⟨by show m + 1 = r.length + 1; omega, fun j hj => ?_⟩
        by_cases z : j = m
        · subst z
          rw [show j + 1 - 1 - j = 0 by omega]
          exact h3
        · rw [show m + 1 - 1 - j = (m - 1 - j) + 1 by omega]
          exact h2 j (by omega)
      · rintro ⟨h1, h2⟩
        have h1 : m + 1 = r.length + 1 := h1
        refine ⟨⟨by omega, fun j hj => ?_⟩, ?_⟩
        · have := h2 j (by omega)
          rw [show m + 1 - 1 - j = (m - 1 - j) + 1 by omega] at this
          exact this
        · have := h2 m (by omega)
          rw [show m + 1 - 1 - m = 0 by omega] at this
          exact this
def zWl : List (List Nat) := [[12, 12, 9, 8], [5, 16, 15, 12, 19], [4, 14, 21, 15, 18, 7], [18, 5, 14, 14, 21, 18], [5, 14, 9, 12]]
theorem zWl_ok : ∀ k, k < 5 → encR (zWl.getD k []) = zcode k ∧ (zWl.getD k []).length = zLen.getD k 0 ∧ (∀ x, x ∈ zWl.getD k [] → 1 ≤ x ∧ x ≤ 26) ∧ zcode k < 2 ^ 31 ∧ ∀ j, j < zLen.getD k 0 → zby5 k j = nI ((zWl.getD k []).getD (zLen.getD k 0 - 1 - j) 0 + 96) ∧ (zWl.getD k []).getD (zLen.getD k 0 - 1 - j) 0 < 1000 := by decide +kernel
theorem zwv_lt {t : Nat × zW} {q : Nat} : ∀ m, (∀ j, j < m → 97 ≤ t.2 (q + j) ∧ t.2 (q + j) ≤ 122) → zwv t q m < 32 ^ m := by
  intro m
  induction m with
  | zero => intro _; exact Nat.zero_lt_one
  | succ m ih =>
    intro h
    have h1 := ih (fun j hj => h j (by omega))
    have h2 := h m (by omega)
    show 32 * zwv t q m + (t.2 (q + m) - 96) < 32 ^ (m + 1)
    rw [Nat.pow_succ]
    omega
theorem zword {t : Nat × zW} {p k : Nat} (hk : k < 5) (hp : p ≤ t.1) (h1 : tk t p = 1) : lg_cmp (zvl t (tq t p)) (lN (zcode k)) = 0 ↔ isW t k p = true := by
  obtain ⟨e1, e2, e3, e4, e5⟩ := zWl_ok k hk
  have hq := te_le hp
  have ha : ∀ j, j < te t p - tq t p → 97 ≤ t.2 (tq t p + j) ∧ t.2 (tq t p + j) ≤ 122 := fun j hj => ztb_1 ((tk_all (Or.inl h1) _ (by omega) (by omega)).trans h1)
  have zl := zlen_le k hk
  rw [lg_cmp_eq]
  have ev : zvl t (tq t p) = zwl t (tq t p) (te t p - tq t p) := by
    unfold zvl
    rw [if_pos (show tkq t (tq t p) = 1 from h1)]
    rfl
  rw [ev]
  have ei : isW t k p = true ↔ (te t p - tq t p = zLen.getD k 0 ∧ ∀ j, j < te t p - tq t p → t.2 (tq t p + j) = (zWl.getD k []).getD (te t p - tq t p - 1 - j) 0 + 96) := by
    unfold isW zisw
    rw [decide_eq_true_iff]
    constructor
    · rintro ⟨-, h2, h3⟩
      refine ⟨h2, fun j hj => ?_⟩
      rw [h2] at hj ⊢
      have := h3 j hj
      rw [(e5 j hj).1] at this
      have b := ha j (by omega)
      exact (nI_eq (by omega) (by have := (e5 j hj).2; omega)).mp this
    · rintro ⟨h2, h3⟩
      refine ⟨h1, h2, fun j hj => ?_⟩
      have := h3 j (by omega)
      rw [h2] at this
      rw [(e5 j hj).1, this]
  rw [ei]
  unfold zwl
  by_cases m7 : te t p - tq t p ≤ 7
  · rw [if_pos m7]
    have b1 : zwv t (tq t p) (te t p - tq t p) < 2 ^ 35 := Nat.lt_of_lt_of_le (zwv_lt _ ha) (Nat.pow_le_pow_right (n := 32) (by decide) m7)
    have c : lN (zwv t (tq t p) (te t p - tq t p)) = lN (zcode k) ↔ zwv t (tq t p) (te t p - tq t p) = zcode k := by
      constructor
      · intro h
        have := congrArg Int64.toInt h
        rw [lN_int (by omega), lN_int (by omega)] at this
        omega
      · intro h; rw [h]
    rw [c, ← e1, zw_enc _ e3 _ ha, e2]
  · rw [if_neg m7]
    constructor
    · intro h
      have := congrArg Int64.toInt h
      rw [lN_int (by omega), show (-1 : Int64).toInt = -1 from rfl] at this
      omega
    · intro h; omega
theorem isW_no {t : Nat × zW} {p k : Nat} (h1 : tk t p ≠ 1) : isW t k p = false := decide_eq_false (fun z => h1 z.1)
