/-! who runs into whom: clashes -/
def wm0 (w : zW) (S : Nat → Nat) (i j r : Nat) : Bool := decide (vL w i r = vL w j r ∧ S i + vT w i 9 r < S j + vT w j 9 (r + 1) ∧ S j + vT w j 9 r < S i + vT w i 9 (r + 1))
def wmt (w : zW) (S : Nat → Nat) (i j : Nat) : Nat → Bool
  | 0 => false
  | r + 1 => wmt w S i j r || wm0 w S i j r
theorem wm0_sym (w : zW) (S : Nat → Nat) (i j r : Nat) : wm0 w S i j r = wm0 w S j i r := by
  unfold wm0
  exact decide_eq_decide.mpr ⟨fun h => ⟨h.1.symm, h.2.2, h.2.1⟩, fun h => ⟨h.1.symm, h.2.2, h.2.1⟩⟩
theorem wmt_sym (w : zW) (S : Nat → Nat) (i j : Nat) : ∀ r, wmt w S i j r = wmt w S j i r := by
  intro r
  induction r with
  | zero => rfl
  | succ r ih => simp only [wmt]; rw [ih, wm0_sym]
theorem wmt_up {w : zW} {S : Nat → Nat} {i j r : Nat} (h : wmt w S i j r = true) : ∀ k, wmt w S i j (r + k) = true := by
  intro k
  induction k with
  | zero => exact h
  | succ k ih => show (wmt w S i j (r + k) || wm0 w S i j (r + k)) = true; rw [ih]; rfl
theorem zadd_int {a : Nat} {x : Int32} (ha : a ≤ 4000) (hx : -4000 ≤ x.toInt ∧ x.toInt ≤ 4000) : (nI a + x).toInt = a + x.toInt := by
  rw [Int32.toInt_add, nI_toInt (by omega)]
  simp only [Int.bmod]
  split <;> omega
section MEET
variable {d b : Nat} {I : Nat → Nat → Int32} {L : Nat → Nat → Int64}
theorem kX10_meet {i j : Nat} {w : zW} {S : Nat → Nat} {x : Int32} (hw : winv w) (ha : wAll I w (w 2)) (hi : i < w 2) (hj : j < w 2) (hx : x.toInt = (S j : Int) - (S i : Int)) (hS : S i ≤ 999 ∧ S j ≤ 999) : zCall (d + 1) mX10_meet [.ref 43, .int (nI i), .int (nI j), .int x, .int (nI (w 0))] (zh b I L) (some (.int (zB (wmt w S i j (w 0)))), zh b I L) := by
  obtain ⟨⟨w0, w1, w2, w3, w4⟩, -⟩ := id hw
  obtain ⟨a1, -, a3, -⟩ := ha i hi
  obtain ⟨b1, -, b3, -⟩ := ha j hj
  refine zCall.of okX10_meet (Nat.le_of_ble_eq_true rfl) ⟨Nat.le_refl _, Nat.le_refl _⟩ (fun G => tX10_meet_0 ?_)
  refine z_for (n := w 0) (P := fun r => wmt w S i j r = false → zA G (d + 1) mX10_meet 3 [some (.ref 43), some (.int (nI i)), some (.int (nI j)), some (.int x), some (.int (nI (w 0))), some (.int (nI r))] [] (zh b I L) (some (.int (zB (wmt w S i j (w 0)))), zh b I L)) ?_ ?_ 0 (Nat.zero_le _) rfl
  · intro hn
    refine tX10_meet_3 zR0.w ⟨fun _ => by rw [hn]; rfl, fun q => absurd (nI_le (Nat.le_refl _) (by omega)) q⟩
  · intro r hr ih hn
    have l1 := vL_lt hw hi r (by omega)
    have l2 := vL_lt hw hj r (by omega)
    have t1 := vT_le (w := w) (i := i) (t := 9) r
    have t2 := vT_le (w := w) (i := i) (t := 9) (r + 1)
    have t3 := vT_le (w := w) (i := j) (t := 9) r
    have t4 := vT_le (w := w) (i := j) (t := 9) (r + 1)
    have c0 : nI (vL w i r) = nI (vL w j r) ↔ vL w i r = vL w j r := nI_eq (by omega) (by omega)
    have c1 : nI (vT w j 9 (r + 1)) + x ≤ nI (vT w i 9 r) ↔ S j + vT w j 9 (r + 1) ≤ S i + vT w i 9 r := by
      rw [Int32.le_iff_toInt_le, zadd_int (by omega) (by omega), nI_toInt (by omega)]
      omega
    have c2 : nI (vT w i 9 (r + 1)) ≤ nI (vT w j 9 r) + x ↔ S i + vT w i 9 (r + 1) ≤ S j + vT w j 9 r := by
      rw [Int32.le_iff_toInt_le, zadd_int (by omega) (by omega), nI_toInt (by omega)]
      omega
    have no : ¬ (vL w i r = vL w j r ∧ S i + vT w i 9 r < S j + vT w j 9 (r + 1) ∧ S j + vT w j 9 r < S i + vT w i 9 (r + 1)) → zA G (d + 1) mX10_meet 3 [some (.ref 43), some (.int (nI i)), some (.int (nI j)), some (.int x), some (.int (nI (w 0))), some (.int (nI (r + 1)))] [] (zh b I L) (some (.int (zB (wmt w S i j (w 0)))), zh b I L) := fun hq => ih (by
        show (wmt w S i j r || wm0 w S i j r) = false
        rw [hn, show wm0 w S i j r = false from decide_eq_false hq]; rfl)
    refine tX10_meet_3 zR0.w ⟨fun q => absurd q (nI_ge hr (by omega)), fun _ => ?_⟩
    rw [nI_1, zwayC, zwayC, zwayC, zwayC, zx_nI (by omega), zx_nI (by omega), zx_nI (by omega), zx_nI (by omega), a1 r (by omega), b1 r (by omega), a3 r (by omega), b3 r (by omega), a3 (r + 1) (by omega), b3 (r + 1) (by omega)]
    refine ⟨zv_in (by omega) (by decide), zv_in (by omega) (by decide), fun q => no (fun z => q (c0.mpr z.1)), fun q0 => ⟨zv_in (by omega) (by decide), zv_in (by omega) (by decide), fun q => no (fun z => absurd (c1.mp q) (by omega)), fun q1 => ⟨zv_in (by omega) (by decide), zv_in (by omega) (by decide), fun q => no (fun z => absurd (c2.mp q) (by omega)), fun q2 => ?_⟩⟩⟩
    have yes : wmt w S i j (r + 1) = true := by
      show (wmt w S i j r || wm0 w S i j r) = true
      rw [show wm0 w S i j r = true from decide_eq_true ⟨c0.mp q0, Nat.lt_of_not_le (fun z => q1 (c1.mpr z)), Nat.lt_of_not_le (fun z => q2 (c2.mpr z))⟩, Bool.or_true]
    have := wmt_up yes (w 0 - (r + 1))
    rw [show r + 1 + (w 0 - (r + 1)) = w 0 by omega] at this
    rw [this]
    rfl
def z68 (I I' : Nat → Nat → Int32) : Prop := ∀ i, (i < 63 ∨ 68 < i) → I' i = I i
theorem z68.trans {I I' I'' : Nat → Nat → Int32} (h : z68 I I') (h' : z68 I' I'') : z68 I I'' := fun i hi => (h' i hi).trans (h i hi)
theorem z68.rf {I : Nat → Nat → Int32} : z68 I I := fun _ _ => rfl
theorem z68.z63 {I I' : Nat → Nat → Int32} (h : z68 I I') : z63 I I' := fun i hi => h i (by omega)
theorem zwk_68 {I : Nat → Nat → Int32} {w : zW} {i t n : Nat} : z68 I (zwk I w i t n) := fun _ h => zwk_ne (by omega)
theorem z68.up {I I' : Nat → Nat → Int32} {a k : Nat} {x : Int32} (h : z68 I I') (ha : 63 ≤ a ∧ a ≤ 68) : z68 I (zup I' a k x) := fun j hj => (zup_ne (by omega)).trans (h j hj)
theorem z68.now {I J : Nat → Nat → Int32} {w : zW} (h : z68 I J) (hw : ∀ k, k < 463 → I 57 k = nI (w k)) : ∀ k, k < 463 → J 57 k = nI (w k) := h.z63.now hw
theorem kX12_meet {i j : Nat} {w : zW} (hw : winv w) (h : ∀ k, k < 463 → I 57 k = nI (w k)) (hi : i < w 2) (hj : j < w 2) : ∃ J, z68 I J ∧ zCall (d + 4) mX12_meet [.ref 56, .int (nI i), .int (nI j)] (zh b I L) (some (.int (zB (wmt w (fun i => w (113 + i)) i j (w 0)))), zh b J L) := by
  obtain ⟨⟨w0, w1, w2, w3, w4⟩, -⟩ := id hw
  have key := z_for (n := w 0 + 1) (P := fun r => ∀ J, z68 I J → (∀ k, k ≤ w 0 → J 63 k = nI (vL w i k) ∧ J 65 k = nI (w (113 + i) + vT w i 9 k)) → (∀ k, k < r → J 67 k = nI (vL w i k) ∧ J 68 k = nI (w (113 + i) + vT w i 9 k)) → ∃ J', z68 I J' ∧ ∀ G, zA G (d + 4) mX12_meet 7 [some (.ref 56), some (.int (nI i)), some (.int (nI j)), some (.int (nI r)), none] [] (zh b J L) (some (.int (zB (wmt w (fun i => w (113 + i)) i j (w 0)))), zh b J' L)) ?_ ?_ 0 (Nat.zero_le _)
  · obtain ⟨J', h1, h2⟩ := key (zwk I w i 9 (w 0)) zwk_68 (fun k hk => ⟨zwk_63 hk, zwk_65 hk⟩) (fun k hk => absurd hk (Nat.not_lt_zero k))
    exact ⟨J', h1, zCall.of okX12_meet (Nat.le_of_ble_eq_true rfl) ⟨Nat.le_refl _, Nat.le_refl _⟩ (fun G => tX12_meet_0 zR0.w ⟨_, kX12_walks hw h hi, h2 G⟩)⟩
  · intro J hJ _ ho
    have e0 := hJ.now h 0 (by decide)
    refine ⟨zwk J w j 9 (w 0), hJ.trans zwk_68, fun G => tX12_meet_7 zR0.w ⟨fun _ => ⟨_, kX12_walks hw (hJ.now h) hj, ?_⟩, fun q => absurd (by rw [e0]; exact nI_lt (Nat.lt_succ_self _) (by omega)) q⟩⟩
    have e0' : zwk J w j 9 (w 0) 57 0 = nI (w 0) := by rw [zwk_ne (by omega)]; exact e0
    refine z_for (n := w 0) (P := fun r => zA G (d + 4) mX12_meet 57 [some (.ref 56), some (.int (nI i)), some (.int (nI j)), some (.int (zB (wmt w (fun i => w (113 + i)) i j r))), some (.int (nI r))] [] (zh b (zwk J w j 9 (w 0)) L) (some (.int (zB (wmt w (fun i => w (113 + i)) i j (w 0)))), zh b (zwk J w j 9 (w 0)) L)) ?_ ?_ 0 (Nat.zero_le _)
    · exact tX12_meet_57 ⟨fun _ => ⟨znB _, rfl⟩, fun q => absurd (by rw [e0']; exact nI_le (Nat.le_refl _) (by omega)) q⟩
    · intro r hr ih
      have s1 := (hw.2.2.2.1 i hi).2.2.1
      have s2 := (hw.2.2.2.1 j hj).2.2.1
      have l1 := vL_lt hw hi r (by omega)
      have l2 := vL_lt hw hj r (by omega)
      have t1 := vT_le (w := w) (i := i) (t := 9) r
      have t2 := vT_le (w := w) (i := i) (t := 9) (r + 1)
      have t3 := vT_le (w := w) (i := j) (t := 9) r
      have t4 := vT_le (w := w) (i := j) (t := 9) (r + 1)
      have ih1 : ∀ c : Bool, wmt w (fun i => w (113 + i)) i j (r + 1) = c → zA G (d + 4) mX12_meet 57 [some (.ref 56), some (.int (nI i)), some (.int (nI j)), some (.int (zB c)), some (.int (nI (r + 1)))] [] (zh b (zwk J w j 9 (w 0)) L) (some (.int (zB (wmt w (fun i => w (113 + i)) i j (w 0)))), zh b (zwk J w j 9 (w 0)) L) := fun c hc => by rw [← hc]; exact ih
      have st : wmt w (fun i => w (113 + i)) i j (r + 1) = (wmt w (fun i => w (113 + i)) i j r || wm0 w (fun i => w (113 + i)) i j r) := rfl
      have c0 : nI (vL w j r) = nI (vL w i r) ↔ vL w j r = vL w i r := nI_eq (by omega) (by omega)
      have c1 : nI (w (113 + i) + vT w i 9 (r + 1)) ≤ nI (w (113 + j) + vT w j 9 r) ↔ w (113 + i) + vT w i 9 (r + 1) ≤ w (113 + j) + vT w j 9 r := nI_leI (by omega) (by omega)
      have c2 : nI (w (113 + j) + vT w j 9 (r + 1)) ≤ nI (w (113 + i) + vT w i 9 r) ↔ w (113 + j) + vT w j 9 (r + 1) ≤ w (113 + i) + vT w i 9 r := nI_leI (by omega) (by omega)
      refine tX12_meet_57 ⟨fun q => absurd q (by rw [e0']; exact nI_ge hr (by omega)), fun _ => ?_⟩
      rw [nI_1, zx_nI (by omega), zx_nI (by omega), zwk_63 (by omega), zwk_65 (by omega), zwk_65 (by omega), zwk_ne (a := 67) (by omega), zwk_ne (a := 68) (by omega), (ho r (by omega)).1, (ho r (by omega)).2, (ho (r + 1) (by omega)).2]
      refine ⟨fun q => ih1 true (by rw [st, zB_1 q]; rfl), fun q => ?_⟩
      have q := zB_0 q
      have no : ¬ (vL w i r = vL w j r ∧ w (113 + i) + vT w i 9 r < w (113 + j) + vT w j 9 (r + 1) ∧ w (113 + j) + vT w j 9 r < w (113 + i) + vT w i 9 (r + 1)) → wmt w (fun i => w (113 + i)) i j (r + 1) = false := fun z => by
        rw [st, q, show wm0 w (fun i => w (113 + i)) i j r = false from decide_eq_false z]; rfl
      refine ⟨zv_in (by omega) (by decide), zv_in (by omega) (by decide), fun q0 => ih1 false (no (fun z => q0 (c0.mpr z.1.symm))), fun q0 => ⟨zv_in (by omega) (by decide), zv_in (by omega) (by decide), fun q1 => ih1 false (no (fun z => absurd (c1.mp q1) (by omega))), fun q1 => ⟨zv_in (by omega) (by decide), zv_in (by omega) (by decide), fun q2 => ih1 false (no (fun z => absurd (c2.mp q2) (by omega))), fun q2 => ih1 true ?_⟩⟩⟩
      rw [st, q, show wm0 w (fun i => w (113 + i)) i j r = true from decide_eq_true ⟨(c0.mp q0).symm, Nat.lt_of_not_le (fun z => q2 (c2.mpr z)), Nat.lt_of_not_le (fun z => q1 (c1.mpr z))⟩]
      rfl
  · intro r hr ih J hJ hs ho
    have e0 := hJ.now h 0 (by decide)
    obtain ⟨J', h1, h2⟩ := ih (zup (zup J 67 r (nI (vL w i r))) 68 r (nI (w (113 + i) + vT w i 9 r))) ((hJ.up (by decide)).up (by decide)) (fun k hk => by
      rw [zup_ne (by decide), zup_ne (by decide), zup_ne (by decide), zup_ne (by decide)]; exact hs k hk) (fun k hk => by
      by_cases z : k = r
      · subst z; simp [zup]
      · have := ho k (by omega)
        simp [zup, z, this])
    refine ⟨J', h1, fun G => tX12_meet_7 zR0.w ⟨fun q => absurd q (by rw [e0]; exact fun z => absurd ((nI_ltI (by omega) (by omega)).mp z) (by omega)), fun _ => ?_⟩⟩
    rw [zx_nI (by omega)]
    refine ⟨zv_in (by omega) (by decide), zv_in (by omega) (by decide), zv_in (by omega) (by decide), zv_in (by omega) (by decide), fun I8 h8 => ?_⟩
    rw [zup_ne (a := 65) (by decide), (hs r (by omega)).2, h8, (hs r (by omega)).1, nI_1]
    exact h2 G
end MEET
theorem zct_t {p : Nat → Bool} {n : Nat} (h : p n = true) : zct p (n + 1) = zct p n + 1 := by simp only [zct]; rw [if_pos h]
theorem zct_f {p : Nat → Bool} {n : Nat} (h : p n = false) : zct p (n + 1) = zct p n := by simp only [zct]; rw [if_neg (by rw [h]; decide)]; rfl
theorem zct_up {p : Nat → Bool} {j : Nat} : ∀ k, zct p j ≤ zct p (j + k) := by
  intro k
  induction k with
  | zero => exact Nat.le_refl _
  | succ k ih => show _ ≤ zct p (j + k) + _; omega
theorem zct_congr {p q : Nat → Bool} : ∀ n, (∀ j, j < n → p j = q j) → zct p n = zct q n := by
  intro n
  induction n with
  | zero => intro _; rfl
  | succ n ih => intro h; simp only [zct]; rw [ih (fun j hj => h j (by omega)), h n (by omega)]
theorem zct_none {p : Nat → Bool} : ∀ n, (∀ j, j < n → p j = false) → zct p n = 0 := by
  intro n
  induction n with
  | zero => intro _; rfl
  | succ n ih => intro h; simp only [zct]; rw [ih (fun j hj => h j (by omega)), h n (by omega)]; rfl
def csum (f : Nat → Nat → Bool) (n : Nat) : Nat → Nat
  | 0 => 0
  | i + 1 => csum f n i + zct (fun j => decide (i < j) && f i j) n
def rsum (f : Nat → Nat → Bool) : Nat → Nat
  | 0 => 0
  | i + 1 => rsum f i + zct (f i) i
theorem csum_s {f : Nat → Nat → Bool} {n : Nat} : ∀ i, i ≤ n → csum f (n + 1) i = csum f n i + zct (fun k => f k n) i := by
  intro i
  induction i with
  | zero => intro _; rfl
  | succ i ih =>
    intro hi
    show csum f (n + 1) i + zct _ (n + 1) = csum f n i + zct _ n + zct _ (i + 1)
    have hd : decide (i < n) = true := decide_eq_true (by omega)
    by_cases z : f i n = true
    · rw [ih (by omega), zct_t (p := fun j => decide (i < j) && f i j) (n := n) (by show (decide (i < n) && f i n) = true; rw [hd, z]; rfl), zct_t (p := fun k => f k n) (n := i) z]
      omega
    · have z := Bool.eq_false_iff.mpr z
      rw [ih (by omega), zct_f (p := fun j => decide (i < j) && f i j) (n := n) (by show (decide (i < n) && f i n) = false; rw [hd, z]; rfl), zct_f (p := fun k => f k n) (n := i) z]
      omega
theorem csum_rsum {f : Nat → Nat → Bool} (hs : ∀ i j, f i j = f j i) : ∀ n, csum f n n = rsum f n := by
  intro n
  induction n with
  | zero => rfl
  | succ n ih =>
    show csum f (n + 1) n + zct _ (n + 1) = rsum f n + zct (f n) n
    rw [csum_s n (Nat.le_refl n), ih, zct_none (n + 1) (fun j hj => by rw [decide_eq_false (show ¬ n < j by omega)]; rfl), zct_congr (p := fun k => f k n) (q := f n) n (fun j _ => hs j n)]
    omega
theorem csum_le {f : Nat → Nat → Bool} {n : Nat} : ∀ i, csum f n i ≤ n * i := by
  intro i
  induction i with
  | zero => exact Nat.le_refl _
  | succ i ih =>
    have := zct_le (p := fun j => decide (i < j) && f i j) n
    show csum f n i + _ ≤ n * (i + 1)
    rw [Nat.mul_succ]
    omega
theorem csum_up {f : Nat → Nat → Bool} {n i : Nat} : ∀ k, csum f n i ≤ csum f n (i + k) := by
  intro k
  induction k with
  | zero => exact Nat.le_refl _
  | succ k ih => show _ ≤ csum f n (i + k) + _; omega
theorem kX12_meets {d b : Nat} {I : Nat → Nat → Int32} {L : Nat → Nat → Int64} {w : zW} (hw : winv w) (h : ∀ k, k < 463 → I 57 k = nI (w k)) : ∃ J, z68 I J ∧ zCall (d + 5) mX12_meets [.ref 56] (zh b I L) (some (.int (nI (rsum (fun i j => wmt w (fun i => w (113 + i)) i j (w 0)) (w 2)))), zh b J L) := by
  obtain ⟨⟨w0, w1, w2, w3, w4⟩, -⟩ := id hw
  have key := z_for (n := w 2) (P := fun i => ∀ J, z68 I J → ∃ J', z68 I J' ∧ ∀ G, zA G (d + 5) mX12_meets 4 [some (.ref 56), some (.int (nI (rsum (fun i j => wmt w (fun i => w (113 + i)) i j (w 0)) i))), some (.int (nI i)), none] [] (zh b J L) (some (.int (nI (rsum (fun i j => wmt w (fun i => w (113 + i)) i j (w 0)) (w 2)))), zh b J' L)) ?_ ?_ 0 (Nat.zero_le _)
  · obtain ⟨J', h1, h2⟩ := key I z68.rf
    exact ⟨J', h1, zCall.of okX12_meets (Nat.le_of_ble_eq_true rfl) ⟨Nat.le_refl _, Nat.le_refl _⟩ (fun G => tX12_meets_0 (h2 G))⟩
  · intro J hJ
    have e2 := hJ.now h 2 (by decide)
    exact ⟨J, hJ, fun G => tX12_meets_4 ⟨fun _ => rfl, fun q => absurd (by rw [e2]; exact nI_le (Nat.le_refl _) (by omega)) q⟩⟩
  · intro i hi ih J hJ
    have e2 := hJ.now h 2 (by decide)
    have inner := z_for (n := i) (P := fun j => ∀ J, z68 I J → ∃ J', z68 I J' ∧ ∀ G, zA G (d + 5) mX12_meets 16 [some (.ref 56), some (.int (nI (rsum (fun i j => wmt w (fun i => w (113 + i)) i j (w 0)) i + zct (fun j => wmt w (fun i => w (113 + i)) i j (w 0)) j))), some (.int (nI i)), some (.int (nI j))] [] (zh b J L) (some (.int (nI (rsum (fun i j => wmt w (fun i => w (113 + i)) i j (w 0)) (w 2)))), zh b J' L)) ?_ ?_ 0 (Nat.zero_le _)
    · obtain ⟨J', h1, h2⟩ := inner J hJ
      exact ⟨J', h1, fun G => tX12_meets_4 ⟨fun q => absurd q (by rw [e2]; exact nI_ge hi (by omega)), fun _ => h2 G⟩⟩
    · intro J hJ
      obtain ⟨J', h1, h2⟩ := ih J hJ
      exact ⟨J', h1, fun G => tX12_meets_16 zR0.w ⟨fun _ => by rw [nI_1]; exact h2 G, fun q => absurd (nI_le (Nat.le_refl _) (by omega)) q⟩⟩
    · intro j hj ih2 J hJ
      obtain ⟨J1, g1, g2⟩ := kX12_meet (d := d) (b := b) (L := L) hw (hJ.now h) hi (show j < w 2 by omega)
      obtain ⟨J', h1, h2⟩ := ih2 J1 (hJ.trans g1)
      refine ⟨J', h1, fun G => tX12_meets_16 zR0.w ⟨fun q => absurd q (nI_ge hj (by omega)), fun _ => ⟨_, _, g2, fun q => ?_, fun q => ?_⟩⟩⟩
      · have := h2 G
        rw [zct_f (p := fun j => wmt w (fun i => w (113 + i)) i j (w 0)) q] at this
        rw [nI_1, Int32.add_zero]; exact this
      · have := h2 G
        rw [zct_t (p := fun j => wmt w (fun i => w (113 + i)) i j (w 0)) q] at this
        rw [nI_1, nI_1]; exact this
theorem p_clashes : zPair mX11_clashes mX12_clashes [] := by
  refine zPair.of fun σ hi => ?_
  obtain ⟨⟨hw0, hw1, hw2, hw3, hw4⟩, -⟩ := id hi.1
  refine ⟨.int (nI (rsum (fun i j => wmt σ.1 (fun i => σ.1 (113 + i)) i j (σ.1 0)) (σ.1 2))), σ, fun d b I L hc => ?_, fun d b I L hc => ?_, hi, Or.inl ⟨rfl, _, rfl⟩⟩
  · obtain ⟨J, h1, h2, h3⟩ := kX10_followAll (d := d + 34) (b := b) (L := L) hc.1.hl hi.1 hc.2.1
    have hc' := hc.w47 h1
    refine ⟨b, J, L, ?_, hc', h1.hi, zhiL.rf⟩
    rw [← csum_rsum (fun i j => wmt_sym _ _ _ _ _)]
    have e2 : J b 2 = nI (σ.1 2) := hc'.2.1.1.2.2.1
    have e0 : J b 0 = nI (σ.1 0) := hc'.2.1.1.1
    have s5 : ∀ i, i < σ.1 2 → J (b + 5) i = nI (σ.1 (113 + i)) := fun i hi => (hc'.2.1.2.2.2.1 i hi).2.2.1
    refine zCall.of okX11_clashes (Nat.le_of_ble_eq_true rfl) ⟨Nat.le_refl _, Nat.le_refl _⟩ (fun G => tX11_clashes_0 (d := d + 34) zR0.w ⟨_, h3, ?_⟩)
    refine z_for (n := σ.1 2) (P := fun i => zA G (d + 40) mX11_clashes 19 [some (.ref 0), some (.int (nI (csum (fun i j => wmt σ.1 (fun i => σ.1 (113 + i)) i j (σ.1 0)) (σ.1 2) i))), some (.int (nI i)), none] [] (zh b J L) _) ?_ ?_ 0 (Nat.zero_le _)
    · exact tX11_clashes_19 (d := d + 34) hc.1 ⟨fun _ => rfl, fun q => absurd (by rw [e2]; exact nI_le (Nat.le_refl _) (by omega)) q⟩
    · intro i hi' ih
      refine tX11_clashes_19 (d := d + 34) hc.1 ⟨fun q => absurd q (by rw [e2]; exact nI_ge hi' (by omega)), fun _ => ?_⟩
      have inner := z_for (n := σ.1 2) (P := fun j => i < j → zA G (d + 40) mX11_clashes 34 [some (.ref 0), some (.int (nI (csum (fun i j => wmt σ.1 (fun i => σ.1 (113 + i)) i j (σ.1 0)) (σ.1 2) i + zct (fun j => decide (i < j) && wmt σ.1 (fun i => σ.1 (113 + i)) i j (σ.1 0)) j))), some (.int (nI i)), some (.int (nI j))] [] (zh b J L) (some (.int (nI (csum (fun i j => wmt σ.1 (fun i => σ.1 (113 + i)) i j (σ.1 0)) (σ.1 2) (σ.1 2)))), zh b J L)) ?_ ?_ (i + 1) hi' (Nat.lt_succ_self i)
      · rw [zct_none (i + 1) (fun j hj => by rw [decide_eq_false (show ¬ i < j by omega)]; rfl)] at inner
        rw [nI_1]
        exact inner
      · intro _
        exact tX11_clashes_34 (d := d + 34) hc.1 zR0.w ⟨fun _ => by rw [nI_1]; exact ih, fun q => absurd (by rw [e2]; exact nI_le (Nat.le_refl _) (by omega)) q⟩
      · intro j hj ih2 hij
        have s1 := (hi.1.2.2.2.1 i hi').2.2.1
        have s2 := (hi.1.2.2.2.1 j hj).2.2.1
        refine tX11_clashes_34 (d := d + 34) hc.1 zR0.w ⟨fun q => absurd q (by rw [e2]; exact nI_ge hj (by omega)), fun _ => ⟨zv_in (by omega) (by decide), zv_in (by omega) (by decide), wmt σ.1 (fun i => σ.1 (113 + i)) i j (σ.1 0), ?_, fun q => ?_, fun q => ?_⟩⟩
        · rw [zx_nI (by omega), zx_nI (by omega), s5 i hi', s5 j hj, e0]
          exact kX10_meet (d := d + 38) hi.1 h2 hi' hj (pk_sub_toInt (by omega) (by omega)) ⟨s1, s2⟩
        · have := ih2 (by omega)
          rw [zct_f (p := fun j => decide (i < j) && wmt σ.1 (fun i => σ.1 (113 + i)) i j (σ.1 0)) (show (decide (i < j) && wmt σ.1 (fun i => σ.1 (113 + i)) i j (σ.1 0)) = false by rw [q, Bool.and_false])] at this
          rw [nI_1]; exact this
        · have := ih2 (by omega)
          rw [zct_t (p := fun j => decide (i < j) && wmt σ.1 (fun i => σ.1 (113 + i)) i j (σ.1 0)) (show (decide (i < j) && wmt σ.1 (fun i => σ.1 (113 + i)) i j (σ.1 0)) = true by rw [q, decide_eq_true hij]; rfl)] at this
          rw [nI_1, nI_1]; exact this
  · obtain ⟨J, h1, h2⟩ := kX12_meets (d := d + 34) (b := b) (L := L) hi.1 hc.1
    exact ⟨J, L, zCall.of okX12_clashes (Nat.le_of_ble_eq_true rfl) ⟨Nat.le_refl _, Nat.le_refl _⟩ (fun G => tX12_clashes_0 (d := d + 34) zR0.w ⟨_, _, h2, rfl⟩), hc.w63 h1.z63, h1.z63.lo, zloL.rf⟩
