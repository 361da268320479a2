/-! the reference's next token -/
def zTr (I : Nat → Nat → Int32) (t : Nat × zW) : Prop := I 56 5 = nI t.1 ∧ ∀ k, k < t.1 → I 61 k = nI (t.2 k)
def z56 (I J : Nat → Nat → Int32) : Prop := (∀ i, i ≠ 56 → J i = I i) ∧ J 56 5 = I 56 5
def z56L (L M : Nat → Nat → Int64) : Prop := (∀ i, i ≠ 56 → M i = L i) ∧ M 56 6 = L 56 6 ∧ M 56 7 = L 56 7
theorem z56.rf {I : Nat → Nat → Int32} : z56 I I := ⟨fun _ _ => rfl, rfl⟩
theorem z56.trans {I J K : Nat → Nat → Int32} (h : z56 I J) (h' : z56 J K) : z56 I K := ⟨fun i hi => (h'.1 i hi).trans (h.1 i hi), h'.2.trans h.2⟩
theorem z56.up {I J : Nat → Nat → Int32} {k : Nat} {x : Int32} (h : z56 I J) (hk : k ≠ 5) : z56 I (zup J 56 k x) := ⟨fun i hi => (zup_ne hi).trans (h.1 i hi), by rw [zup_self]; simp only [upd]; rw [if_neg (fun q => hk q.symm)]; exact h.2⟩
theorem z56.tr {I J : Nat → Nat → Int32} {t : Nat × zW} (h : z56 I J) (ht : zTr I t) : zTr J t := ⟨h.2.trans ht.1, fun k hk => by rw [h.1 61 (by decide)]; exact ht.2 k hk⟩
theorem z56L.rf {L : Nat → Nat → Int64} : z56L L L := ⟨fun _ _ => rfl, rfl, rfl⟩
theorem z56L.trans {L M N : Nat → Nat → Int64} (h : z56L L M) (h' : z56L M N) : z56L L N := ⟨fun i hi => (h'.1 i hi).trans (h.1 i hi), h'.2.1.trans h.2.1, h'.2.2.trans h.2.2⟩
theorem z56L.up {L M : Nat → Nat → Int64} {x : Int64} (h : z56L L M) : z56L L (zupL M 56 12 x) := ⟨fun i hi => (zupL_ne hi).trans (h.1 i hi), by simp [zupL]; exact h.2.1, by simp [zupL]; exact h.2.2⟩
def zwl (t : Nat × zW) (q j : Nat) : Int64 := if j ≤ 7 then lN (zwv t q j) else -1
def znl (t : Nat × zW) (q j : Nat) : Int64 := if j ≤ 2 then lN (znv t q j) else 100000
def zvl (t : Nat × zW) (q : Nat) : Int64 := if tkq t q = 1 then zwl t q (teq t q - q) else if tkq t q = 2 then znl t q (teq t q - q) else 0
def teR (t : Nat × zW) (q : Nat) : Nat := if tkq t q = 4 then q else teq t q
theorem zl_step {a x m c : Nat} (hx : c ≤ x) (hx2 : x < 2 ^ 31) : lN m * lN a + (nI x).toInt64 - lN c = lN (m * a + (x - c)) := by
  rw [nI_L hx2, lN_mul, lN_add, lN_sub (by omega), show m * a + x - c = m * a + (x - c) by omega]
section NEXT
variable {d b : Nat} {I : Nat → Nat → Int32} {L : Nat → Nat → Int64}
theorem zrn_s {t : Nat × zW} {k q : Nat} (h : q < t.1) (hk : ztb (t.2 q) = k) : zrn t k (t.1 - q) q = zrn t k (t.1 - (q + 1)) (q + 1) := by
  rw [show t.1 - q = (t.1 - (q + 1)) + 1 by omega]
  simp only [zrn]
  rw [if_pos hk]
theorem kX12_fig {t : Nat × zW} {q : Nat} (hw : zTw t) (ht : zTr I t) (x : Int32) : ∀ m p J M, t.1 - p = m → p ≤ t.1 → q ≤ p → z56 I J → z56L L M → J 56 9 = nI p → J 56 10 = nI q → J 56 11 = nI 2 → M 56 12 = znl t q (p - q) → ∃ J' M', z56 I J' ∧ z56L L M' ∧ J' 56 9 = nI (zrn t 2 (t.1 - p) p) ∧ J' 56 10 = nI q ∧ J' 56 11 = nI 2 ∧ M' 56 12 = znl t q (zrn t 2 (t.1 - p) p - q) ∧ ∀ G, zA G (d + 1) mX12_next 237 [some (.ref 56), some (.int x)] [] (zh b J M) (none, zh b J' M') := by
  obtain ⟨h250, h256⟩ := hw
  intro m
  induction m with
  | zero =>
    intro p J M hm hp hqp hJ hM h9 h10 h11 h12
    have : p = t.1 := by omega
    subst this
    refine ⟨J, M, hJ, hM, by rw [Nat.sub_self]; exact h9, h10, h11, by rw [Nat.sub_self]; exact h12, fun G => tX12_next_237 zR0.w ⟨fun z => absurd h11 z, fun _ => ⟨fun _ => rfl, fun z => absurd (by rw [(hJ.tr ht).1, h9]; exact nI_le (Nat.le_refl _) (by omega)) z⟩⟩⟩
  | succ m ih =>
    intro p J M hm hp hqp hJ hM h9 h10 h11 h12
    have tr := hJ.tr ht
    have hb := h256 p (by omega)
    have cf : (47 < nI (t.2 p) ∧ nI (t.2 p) < 58) ↔ ztb (t.2 p) = 2 := by
      rw [show (47 : Int32) = nI 47 from rfl, show (58 : Int32) = nI 58 from rfl, nI_ltI (by omega) (by omega), nI_ltI (by omega) (by omega)]
      unfold ztb
      (repeat' split) <;> omega
    have nle : ¬ J 56 5 ≤ J 56 9 := by rw [tr.1, h9]; exact nI_ge (by omega) (by omega)
    by_cases z : ztb (t.2 p) = 2
    · have z2 := cf.mpr z
      have h48 : 48 ≤ t.2 p := by unfold ztb at z; (repeat' split at z) <;> omega
      have go : ∀ v, v = znl t q (p + 1 - q) → ∃ J' M', z56 I J' ∧ z56L L M' ∧ J' 56 9 = nI (zrn t 2 (t.1 - p) p) ∧ J' 56 10 = nI q ∧ J' 56 11 = nI 2 ∧ M' 56 12 = znl t q (zrn t 2 (t.1 - p) p - q) ∧ ∀ G, zA G (d + 1) mX12_next 237 [some (.ref 56), some (.int x)] [] (zh b (zup J 56 9 (nI (p + 1))) (zupL M 56 12 v)) (none, zh b J' M') := fun v hv => by
        have := ih (p + 1) (zup J 56 9 (nI (p + 1))) (zupL M 56 12 v) (by omega) (by omega) (by omega) (hJ.up (by decide)) hM.up (by simp [zup]) (by simp [zup]; exact h10) (by simp [zup]; exact h11) (by simp [zupL]; exact hv)
        rw [← zrn_s (by omega) z] at this
        exact this
      have e12 : J 56 9 - J 56 10 = nI (p - q) := by rw [h9, h10, pk_sub hqp]
      have c2 : (2 : Int32) ≤ nI (p - q) ↔ 2 ≤ p - q := nI_leI (a := 2) (by decide) (by omega)
      by_cases y : 2 ≤ p - q
      · obtain ⟨J', M', g1, g2, g3, g4, g5, g6, g7⟩ := go 100000 (by unfold znl; rw [if_neg (by omega)])
        refine ⟨J', M', g1, g2, g3, g4, g5, g6, fun G => tX12_next_237 zR0.w ⟨fun z => absurd h11 z, fun _ => ⟨fun u => absurd u nle, fun _ => ?_⟩⟩⟩
        rw [e12, h9, zx_nI (by omega), tr.2 p (by omega), nI_1]
        exact ⟨zv_in (by omega) (by decide), fun u => absurd z2 u, fun _ => ⟨fun _ => g7 G, fun u => absurd (c2.mpr y) u⟩⟩
      · obtain ⟨J', M', g1, g2, g3, g4, g5, g6, g7⟩ := go (10 * M 56 12 + (nI (t.2 p)).toInt64 - 48) (by
          rw [h12]
          unfold znl
          rw [if_pos (by omega), if_pos (by omega), show p + 1 - q = (p - q) + 1 by omega]
          show lN 10 * lN (znv t q (p - q)) + (nI (t.2 p)).toInt64 - lN 48 = lN (10 * znv t q (p - q) + (t.2 (q + (p - q)) - 48))
          rw [zl_step h48 (by omega), show q + (p - q) = p by omega])
        refine ⟨J', M', g1, g2, g3, g4, g5, g6, fun G => tX12_next_237 zR0.w ⟨fun z => absurd h11 z, fun _ => ⟨fun u => absurd u nle, fun _ => ?_⟩⟩⟩
        rw [e12, h9, zx_nI (by omega), tr.2 p (by omega), nI_1]
        exact ⟨zv_in (by omega) (by decide), fun u => absurd z2 u, fun _ => ⟨fun u => absurd (c2.mp u) y, fun _ => ⟨zv_in (by omega) (by decide), g7 G⟩⟩⟩
    · have e : zrn t 2 (t.1 - p) p = p := by
        rw [show t.1 - p = (t.1 - (p + 1)) + 1 by omega]
        simp only [zrn]
        rw [if_neg z]
      refine ⟨J, M, hJ, hM, by rw [e]; exact h9, h10, h11, by rw [e]; exact h12, fun G => tX12_next_237 zR0.w ⟨fun z => absurd h11 z, fun _ => ⟨fun u => absurd u nle, fun _ => ?_⟩⟩⟩
      rw [h9, zx_nI (by omega), tr.2 p (by omega)]
      exact ⟨zv_in (by omega) (by decide), fun _ => rfl, fun u => absurd (cf.mp u) z⟩
theorem kX12_let {t : Nat × zW} {q : Nat} (hw : zTw t) (ht : zTr I t) (x : Int32) : ∀ m p J M, t.1 - p = m → p ≤ t.1 → q ≤ p → z56 I J → z56L L M → J 56 9 = nI p → J 56 10 = nI q → J 56 11 = nI 1 → M 56 12 = zwl t q (p - q) → ∃ J' M', z56 I J' ∧ z56L L M' ∧ J' 56 9 = nI (zrn t 1 (t.1 - p) p) ∧ J' 56 10 = nI q ∧ J' 56 11 = nI 1 ∧ M' 56 12 = zwl t q (zrn t 1 (t.1 - p) p - q) ∧ ∀ G, zA G (d + 1) mX12_next 143 [some (.ref 56), some (.int x)] [] (zh b J M) (none, zh b J' M') := by
  obtain ⟨h250, h256⟩ := hw
  intro m
  induction m with
  | zero =>
    intro p J M hm hp hqp hJ hM h9 h10 h11 h12
    have : p = t.1 := by omega
    subst this
    refine ⟨J, M, hJ, hM, by rw [Nat.sub_self]; exact h9, h10, h11, by rw [Nat.sub_self]; exact h12, fun G => tX12_next_143 zR0.w ⟨fun z => absurd h11 z, fun _ => ⟨fun _ => tX12_next_237 zR0.w ⟨fun _ => rfl, fun z => absurd z (by rw [h11]; decide)⟩, fun z => absurd (by rw [(hJ.tr ht).1, h9]; exact nI_le (Nat.le_refl _) (by omega)) z⟩⟩⟩
  | succ m ih =>
    intro p J M hm hp hqp hJ hM h9 h10 h11 h12
    have tr := hJ.tr ht
    have hb := h256 p (by omega)
    have cf : (96 < nI (t.2 p) ∧ nI (t.2 p) < 123) ↔ ztb (t.2 p) = 1 := by
      rw [show (96 : Int32) = nI 96 from rfl, show (123 : Int32) = nI 123 from rfl, nI_ltI (by omega) (by omega), nI_ltI (by omega) (by omega)]
      unfold ztb
      (repeat' split) <;> omega
    have nle : ¬ J 56 5 ≤ J 56 9 := by rw [tr.1, h9]; exact nI_ge (by omega) (by omega)
    by_cases z : ztb (t.2 p) = 1
    · have z2 := cf.mpr z
      have h97 : 96 ≤ t.2 p := by unfold ztb at z; (repeat' split at z) <;> omega
      have go : ∀ v, v = zwl t q (p + 1 - q) → ∃ J' M', z56 I J' ∧ z56L L M' ∧ J' 56 9 = nI (zrn t 1 (t.1 - p) p) ∧ J' 56 10 = nI q ∧ J' 56 11 = nI 1 ∧ M' 56 12 = zwl t q (zrn t 1 (t.1 - p) p - q) ∧ ∀ G, zA G (d + 1) mX12_next 143 [some (.ref 56), some (.int x)] [] (zh b (zup J 56 9 (nI (p + 1))) (zupL M 56 12 v)) (none, zh b J' M') := fun v hv => by
        have := ih (p + 1) (zup J 56 9 (nI (p + 1))) (zupL M 56 12 v) (by omega) (by omega) (by omega) (hJ.up (by decide)) hM.up (by simp [zup]) (by simp [zup]; exact h10) (by simp [zup]; exact h11) (by simp [zupL]; exact hv)
        rw [← zrn_s (by omega) z] at this
        exact this
      have e12 : J 56 9 - J 56 10 = nI (p - q) := by rw [h9, h10, pk_sub hqp]
      have c2 : (7 : Int32) ≤ nI (p - q) ↔ 7 ≤ p - q := nI_leI (a := 7) (by decide) (by omega)
      by_cases y : 7 ≤ p - q
      · obtain ⟨J', M', g1, g2, g3, g4, g5, g6, g7⟩ := go (-1) (by unfold zwl; rw [if_neg (by omega)])
        refine ⟨J', M', g1, g2, g3, g4, g5, g6, fun G => tX12_next_143 zR0.w ⟨fun z => absurd h11 z, fun _ => ⟨fun u => absurd u nle, fun _ => ?_⟩⟩⟩
        rw [e12, h9, zx_nI (by omega), tr.2 p (by omega), nI_1]
        exact ⟨zv_in (by omega) (by decide), fun u => absurd z2 u, fun _ => ⟨fun _ => g7 G, fun u => absurd (c2.mpr y) u⟩⟩
      · obtain ⟨J', M', g1, g2, g3, g4, g5, g6, g7⟩ := go (32 * M 56 12 + (nI (t.2 p)).toInt64 - 96) (by
          rw [h12]
          unfold zwl
          rw [if_pos (by omega), if_pos (by omega), show p + 1 - q = (p - q) + 1 by omega]
          show lN 32 * lN (zwv t q (p - q)) + (nI (t.2 p)).toInt64 - lN 96 = lN (32 * zwv t q (p - q) + (t.2 (q + (p - q)) - 96))
          rw [zl_step h97 (by omega), show q + (p - q) = p by omega])
        refine ⟨J', M', g1, g2, g3, g4, g5, g6, fun G => tX12_next_143 zR0.w ⟨fun z => absurd h11 z, fun _ => ⟨fun u => absurd u nle, fun _ => ?_⟩⟩⟩
        rw [e12, h9, zx_nI (by omega), tr.2 p (by omega), nI_1]
        exact ⟨zv_in (by omega) (by decide), fun u => absurd z2 u, fun _ => ⟨fun u => absurd (c2.mp u) y, fun _ => ⟨zv_in (by omega) (by decide), g7 G⟩⟩⟩
    · have e : zrn t 1 (t.1 - p) p = p := by
        rw [show t.1 - p = (t.1 - (p + 1)) + 1 by omega]
        simp only [zrn]
        rw [if_neg z]
      refine ⟨J, M, hJ, hM, by rw [e]; exact h9, h10, h11, by rw [e]; exact h12, fun G => tX12_next_143 zR0.w ⟨fun z => absurd h11 z, fun _ => ⟨fun u => absurd u nle, fun _ => ?_⟩⟩⟩
      rw [h9, zx_nI (by omega), tr.2 p (by omega)]
      exact ⟨zv_in (by omega) (by decide), fun _ => tX12_next_237 zR0.w ⟨fun _ => rfl, fun z => absurd z (by rw [h11]; decide)⟩, fun u => absurd (cf.mp u) z⟩
/-- from where the kind is known -/
theorem kX12_kind {t : Nat × zW} {q : Nat} (hw : zTw t) (ht : zTr I t) (x : Int32) (hq : q ≤ t.1) {J : Nat → Nat → Int32} {M : Nat → Nat → Int64} (hJ : z56 I J) (hM : z56L L M) (h9 : J 56 9 = nI (if tkq t q = 3 then q + 1 else q)) (h10 : J 56 10 = nI q) (h11 : J 56 11 = nI (tkq t q)) (h12 : M 56 12 = 0) : ∃ J' M', z56 I J' ∧ z56L L M' ∧ J' 56 9 = nI (teR t q) ∧ J' 56 10 = nI q ∧ J' 56 11 = nI (tkq t q) ∧ M' 56 12 = zvl t q ∧ ∀ G, zA G (d + 1) mX12_next 143 [some (.ref 56), some (.int x)] [] (zh b J M) (none, zh b J' M') := by
  have hk4 := tkq_le t q
  have c1 : nI (tkq t q) = 1 ↔ tkq t q = 1 := nIc (c := 1) (by omega) (by decide)
  have c2 : nI (tkq t q) = 2 ↔ tkq t q = 2 := nIc (c := 2) (by omega) (by decide)
  have kt : q < t.1 → tkq t q = ztb (t.2 q) := fun h => by unfold tkq; rw [if_pos h]
  by_cases k1 : tkq t q = 1
  · have hlt : q < t.1 := by
      by_cases z : q < t.1
      · exact z
      · have := tkq_0.mpr (Nat.le_of_not_lt z); omega
    rw [k1, if_neg (by decide)] at h9
    rw [k1] at h11
    obtain ⟨J', M', g1, g2, g3, g4, g5, g6, g7⟩ := kX12_let (d := d) (b := b) hw ht x (t.1 - q) q J M rfl hq (Nat.le_refl _) hJ hM h9 h10 h11 (by rw [h12, Nat.sub_self]; rfl)
    have e : teq t q = zrn t 1 (t.1 - q) q := by
      unfold teq
      rw [k1, if_neg (by decide), if_pos (Or.inl rfl), ← zrn_s hlt (by rw [← kt hlt]; exact k1)]
    refine ⟨J', M', g1, g2, ?_, g4, by rw [k1]; exact g5, ?_, g7⟩
    · unfold teR; rw [k1, if_neg (by decide), e]; exact g3
    · unfold zvl; rw [if_pos k1, e]; exact g6
  · by_cases k2 : tkq t q = 2
    · have hlt : q < t.1 := by
        by_cases z : q < t.1
        · exact z
        · have := tkq_0.mpr (Nat.le_of_not_lt z); omega
      rw [k2, if_neg (by decide)] at h9
      rw [k2] at h11
      obtain ⟨J', M', g1, g2, g3, g4, g5, g6, g7⟩ := kX12_fig (d := d) (b := b) hw ht x (t.1 - q) q J M rfl hq (Nat.le_refl _) hJ hM h9 h10 h11 (by rw [h12, Nat.sub_self]; rfl)
      have e : teq t q = zrn t 2 (t.1 - q) q := by
        unfold teq
        rw [k2, if_neg (by decide), if_pos (Or.inr rfl), ← zrn_s hlt (by rw [← kt hlt]; exact k2)]
      refine ⟨J', M', g1, g2, ?_, g4, by rw [k2]; exact g5, ?_, fun G => tX12_next_143 zR0.w ⟨fun _ => g7 G, fun z => absurd z (by rw [h11]; decide)⟩⟩
      · unfold teR; rw [k2, if_neg (by decide), e]; exact g3
      · unfold zvl; rw [if_neg k1, if_pos k2, e]; exact g6
    · refine ⟨J, M, hJ, hM, ?_, h10, h11, ?_, fun G => tX12_next_143 zR0.w ⟨fun _ => tX12_next_237 zR0.w ⟨fun _ => rfl, fun z => absurd (c2.mp (h11.symm.trans z)) k2⟩, fun z => absurd (c1.mp (h11.symm.trans z)) k1⟩⟩
      · rw [h9]
        unfold teR teq
        congr 1
        (repeat' split) <;> omega
      · unfold zvl; rw [if_neg k1, if_neg k2]; exact h12
theorem kX12_next {t : Nat × zW} {p : Nat} (hw : zTw t) (ht : zTr I t) (hp : p ≤ t.1) (h9 : I 56 9 = nI p) : ∃ J M, z56 I J ∧ z56L L M ∧ J 56 9 = nI (teR t (tq t p)) ∧ J 56 10 = nI (tq t p) ∧ J 56 11 = nI (tk t p) ∧ M 56 12 = zvl t (tq t p) ∧ zCall (d + 1) mX12_next [.ref 56] (zh b I L) (none, zh b J M) := by
  obtain ⟨h250, h256⟩ := id hw
  have skip : ∀ m p J, t.1 - p = m → p ≤ t.1 → z56 I J → J 56 9 = nI p → ∃ J' M', z56 I J' ∧ z56L L M' ∧ J' 56 9 = nI (teR t (tq t p)) ∧ J' 56 10 = nI (tq t p) ∧ J' 56 11 = nI (tk t p) ∧ M' 56 12 = zvl t (tq t p) ∧ ∀ G, zA G (d + 1) mX12_next 0 [some (.ref 56), none] [] (zh b J L) (none, zh b J' M') := by
    intro m
    induction m with
    | zero =>
      intro p J hm hp hJ h9
      have hpe : p = t.1 := by omega
      have tr := hJ.tr ht
      have q0 : tq t p = p := tq_end (by omega)
      have k0 : tkq t p = 0 := tkq_0.mpr (by omega)
      obtain ⟨J', M', g1, g2, g3, g4, g5, g6, g7⟩ := kX12_kind (d := d) (b := b) hw ht (-1) hp (J := zup (zup (zup J 56 10 (nI p)) 56 11 0) 56 9 (nI p)) (M := zupL L 56 12 0) (((hJ.up (by decide)).up (by decide)).up (by decide)) z56L.rf.up (by rw [k0, if_neg (by decide)]; simp [zup]) (by simp [zup]) (by rw [k0]; simp [zup]; rfl) (by simp [zupL])
      refine ⟨J', M', g1, g2, by rw [q0]; exact g3, by rw [q0]; exact g4, by unfold tk; rw [q0]; exact g5, by rw [q0]; exact g6, fun G => tX12_next_0 zR0.w ⟨fun _ => ?_, fun z => absurd (by rw [tr.1, h9, hpe]; exact nI_le (Nat.le_refl _) (by omega)) z⟩⟩
      have x5 : zup J 56 10 (nI p) 56 5 = nI t.1 := by simp [zup]; exact tr.1
      have x9 : zup J 56 10 (nI p) 56 9 = nI p := by simp [zup]; exact h9
      rw [h9, x5, x9]
      refine ⟨fun _ => ⟨fun z => absurd z (by decide), fun _ => ?_⟩, fun z => absurd (by rw [hpe]; exact nI_le (Nat.le_refl _) (by omega)) z⟩
      rintro I23 rfl
      have y11 : zup (zup J 56 10 (nI p)) 56 11 0 56 11 = 0 := by simp [zup]
      have y9 : zup (zup J 56 10 (nI p)) 56 11 0 56 9 = nI p := by simp [zup]; exact h9
      rw [y11, y9, Int32.add_zero]
      refine ⟨fun _ => ?_, fun z => absurd z (by decide)⟩
      rintro I25 rfl
      exact g7 G
    | succ m ih =>
      intro p J hm hp hJ h9
      have tr := hJ.tr ht
      have hlt : p < t.1 := by omega
      have hb := h256 p hlt
      have c32 : nI (t.2 p) = 32 ↔ t.2 p = 32 := nIc (c := 32) (by omega) (by decide)
      have nle : ¬ J 56 5 ≤ J 56 9 := by rw [tr.1, h9]; exact nI_ge hlt (by omega)
      by_cases z : t.2 p = 32
      · obtain ⟨J', M', g1, g2, g3, g4, g5, g6, g7⟩ := ih (p + 1) (zup J 56 9 (nI (p + 1))) (by omega) (by omega) (hJ.up (by decide)) (by simp [zup])
        have eq := tq_sp hlt z
        refine ⟨J', M', g1, g2, by rw [eq]; exact g3, by rw [eq]; exact g4, by unfold tk; rw [eq]; exact g5, by rw [eq]; exact g6, fun G => tX12_next_0 zR0.w ⟨fun q => absurd q nle, fun _ => ?_⟩⟩
        rw [h9, zx_nI (by omega), tr.2 p hlt, nI_1]
        exact ⟨zv_in (by omega) (by decide), fun q => absurd (c32.mpr z) q, fun _ => g7 G⟩
      · have q0 : tq t p = p := tq_no hlt z
        have k0 : tkq t p = ztb (t.2 p) := by unfold tkq; rw [if_pos hlt]
        have kb := ztb_le (t.2 p)
        have x5 : zup J 56 10 (nI p) 56 5 = nI t.1 := by simp [zup]; exact tr.1
        have x9 : zup J 56 10 (nI p) 56 9 = nI p := by simp [zup]; exact h9
        have x61 : zup J 56 10 (nI p) 61 p = nI (t.2 p) := by rw [zup_ne (by decide)]; exact tr.2 p hlt
        obtain ⟨J', M', g1, g2, g3, g4, g5, g6, g7⟩ := kX12_kind (d := d) (b := b) hw ht (nI (t.2 p)) hp (J := zup (zup (zup J 56 10 (nI p)) 56 11 (nI (ztb (t.2 p)))) 56 9 (nI (if ztb (t.2 p) = 3 then p + 1 else p))) (M := zupL L 56 12 0) (((hJ.up (by decide)).up (by decide)).up (by decide)) z56L.rf.up (by rw [k0]; simp [zup]) (by simp [zup]) (by rw [k0]; simp [zup]) (by simp [zupL])
        have cl : (96 < nI (t.2 p) ∧ nI (t.2 p) < 123) ↔ (97 ≤ t.2 p ∧ t.2 p ≤ 122) := by
          rw [show (96 : Int32) = nI 96 from rfl, show (123 : Int32) = nI 123 from rfl, nI_ltI (by omega) (by omega), nI_ltI (by omega) (by omega)]
          omega
        have cf : (47 < nI (t.2 p) ∧ nI (t.2 p) < 58) ↔ (48 ≤ t.2 p ∧ t.2 p ≤ 57) := by
          rw [show (47 : Int32) = nI 47 from rfl, show (58 : Int32) = nI 58 from rfl, nI_ltI (by omega) (by omega), nI_ltI (by omega) (by omega)]
          omega
        have c59 : nI (t.2 p) = 59 ↔ t.2 p = 59 := nIc (c := 59) (by omega) (by decide)
        refine ⟨J', M', g1, g2, by rw [q0]; exact g3, by rw [q0]; exact g4, by unfold tk; rw [q0]; exact g5, by rw [q0]; exact g6, fun G => tX12_next_0 zR0.w ⟨fun q => absurd q nle, fun _ => ?_⟩⟩
        have br : ∀ kk : Nat, ztb (t.2 p) = kk → ∀ I32 : Nat → Nat → Int32, I32 = zup J 56 10 (nI p) → ((¬ (zup I32 56 11 (nI kk) 56 11) = 3 → (∀ I34 : Nat → Nat → Int32, I34 = zup I32 56 11 (nI kk) → zA G (d + 1) mX12_next 143 [some (.ref 56), some (.int (nI (t.2 p)))] [] (zh b (zup I34 56 9 ((zup I32 56 11 (nI kk) 56 9) + 0)) (zupL L 56 12 0)) (none, zh b J' M'))) ∧ ((zup I32 56 11 (nI kk) 56 11) = 3 → (∀ I35 : Nat → Nat → Int32, I35 = zup I32 56 11 (nI kk) → zA G (d + 1) mX12_next 143 [some (.ref 56), some (.int (nI (t.2 p)))] [] (zh b (zup I35 56 9 ((zup I32 56 11 (nI kk) 56 9) + 1)) (zupL L 56 12 0)) (none, zh b J' M')))) := by
          rintro kk hkk I32 rfl
          have y11 : zup (zup J 56 10 (nI p)) 56 11 (nI kk) 56 11 = nI kk := by simp [zup]
          have y9 : zup (zup J 56 10 (nI p)) 56 11 (nI kk) 56 9 = nI p := by simp [zup]; exact h9
          have c3 : nI kk = 3 ↔ kk = 3 := nIc (c := 3) (by omega) (by decide)
          rw [y11, y9, Int32.add_zero, nI_1, c3]
          rw [hkk] at g7
          refine ⟨fun u => ?_, fun u => ?_⟩
          · rintro I34 rfl
            rw [if_neg u] at g7
            exact g7 G
          · rintro I35 rfl
            rw [if_pos u] at g7
            exact g7 G
        rw [h9, zx_nI (by omega), tr.2 p hlt, x5, x9]
        refine ⟨zv_in (by omega) (by decide), fun _ => ⟨fun q => absurd q (nI_ge hlt (by omega)), fun _ => ?_⟩, fun q => absurd (c32.mp q) z⟩
        rw [zx_nI (by omega), x61, cl, cf, c59]
        refine ⟨zv_in (by omega) (by decide), fun _ => ⟨fun u1 => ⟨fun u2 => ⟨fun u3 => br 4 ?_, fun u3 => br 3 ?_⟩, fun u2 => br 2 ?_⟩, fun u1 => br 1 ?_⟩, fun q => absurd (nI_le (Nat.zero_le _) (by omega)) q⟩
        all_goals (unfold ztb; (repeat' split) <;> omega)
  obtain ⟨J', M', g1, g2, g3, g4, g5, g6, g7⟩ := skip (t.1 - p) p I rfl hp z56.rf h9
  exact ⟨J', M', g1, g2, g3, g4, g5, g6, zCall.of okX12_next (Nat.le_of_ble_eq_true rfl) ⟨Nat.le_refl _, Nat.le_refl _⟩ (fun G => g7 G)⟩
end NEXT
