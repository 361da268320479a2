/-! TOKENS of a text t: place, kind, end, value -/
def ztb (c : Nat) : Nat := if 97 ≤ c ∧ c ≤ 122 then 1 else if 48 ≤ c ∧ c ≤ 57 then 2 else if c = 59 then 3 else 4
def zsp (t : Nat × zW) : Nat → Nat → Nat
  | 0, p => p
  | f + 1, p => if t.2 p = 32 then zsp t f (p + 1) else p
def tq (t : Nat × zW) (p : Nat) : Nat := zsp t (t.1 - p) p
def zrn (t : Nat × zW) (k : Nat) : Nat → Nat → Nat
  | 0, p => p
  | f + 1, p => if ztb (t.2 p) = k then zrn t k f (p + 1) else p
def tkq (t : Nat × zW) (q : Nat) : Nat := if q < t.1 then ztb (t.2 q) else 0
def teq (t : Nat × zW) (q : Nat) : Nat := if tkq t q = 0 then q else if tkq t q = 1 ∨ tkq t q = 2 then zrn t (tkq t q) (t.1 - (q + 1)) (q + 1) else q + 1
def tk (t : Nat × zW) (p : Nat) : Nat := tkq t (tq t p)
def te (t : Nat × zW) (p : Nat) : Nat := teq t (tq t p)
def zwv (t : Nat × zW) (q : Nat) : Nat → Nat
  | 0 => 0
  | j + 1 => 32 * zwv t q j + (t.2 (q + j) - 96)
def znv (t : Nat × zW) (q : Nat) : Nat → Nat
  | 0 => 0
  | j + 1 => 10 * znv t q j + (t.2 (q + j) - 48)
theorem ztb_le (c : Nat) : 1 ≤ ztb c ∧ ztb c ≤ 4 := by unfold ztb; (repeat' split) <;> omega
theorem zsp_le (t : Nat × zW) : ∀ f p, p ≤ zsp t f p ∧ zsp t f p ≤ p + f := by
  intro f
  induction f with
  | zero => intro p; exact ⟨Nat.le_refl _, Nat.le_refl _⟩
  | succ f ih =>
    intro p
    simp only [zsp]
    split
    · have := ih (p + 1); omega
    · omega
theorem zrn_le (t : Nat × zW) (k : Nat) : ∀ f p, p ≤ zrn t k f p ∧ zrn t k f p ≤ p + f := by
  intro f
  induction f with
  | zero => intro p; exact ⟨Nat.le_refl _, Nat.le_refl _⟩
  | succ f ih =>
    intro p
    simp only [zrn]
    split
    · have := ih (p + 1); omega
    · omega
theorem tq_le {t : Nat × zW} {p : Nat} (h : p ≤ t.1) : p ≤ tq t p ∧ tq t p ≤ t.1 := by
  have := zsp_le t (t.1 - p) p
  unfold tq
  omega
theorem tkq_le (t : Nat × zW) (q : Nat) : tkq t q ≤ 4 := by
  unfold tkq
  split
  · exact (ztb_le _).2
  · omega
theorem tkq_0 {t : Nat × zW} {q : Nat} : tkq t q = 0 ↔ t.1 ≤ q := by
  unfold tkq
  by_cases z : q < t.1
  · rw [if_pos z]; have := (ztb_le (t.2 q)).1; omega
  · rw [if_neg z]; omega
theorem teq_le {t : Nat × zW} {q : Nat} (h : q ≤ t.1) : q ≤ teq t q ∧ teq t q ≤ t.1 ∧ (tkq t q ≠ 0 → q < teq t q) := by
  have h0 := tkq_0 (t := t) (q := q)
  have h1 := zrn_le t (tkq t q) (t.1 - (q + 1)) (q + 1)
  unfold teq
  by_cases z : tkq t q = 0
  · rw [if_pos z]; exact ⟨Nat.le_refl _, h, fun q => absurd z q⟩
  · rw [if_neg z]
    split <;> omega
theorem te_le {t : Nat × zW} {p : Nat} (h : p ≤ t.1) : p ≤ te t p ∧ te t p ≤ t.1 ∧ tq t p ≤ te t p ∧ (tk t p ≠ 0 → p < te t p) := by
  have h1 := tq_le h
  have h2 := teq_le h1.2
  unfold te tk
  omega
theorem tq_sp {t : Nat × zW} {p : Nat} (h : p < t.1) (h32 : t.2 p = 32) : tq t p = tq t (p + 1) := by
  unfold tq
  rw [show t.1 - p = (t.1 - (p + 1)) + 1 by omega]
  simp only [zsp]
  rw [if_pos h32]
theorem tq_no {t : Nat × zW} {p : Nat} (h : p < t.1) (h32 : t.2 p ≠ 32) : tq t p = p := by
  unfold tq
  rw [show t.1 - p = (t.1 - (p + 1)) + 1 by omega]
  simp only [zsp]
  rw [if_neg h32]
theorem tq_end {t : Nat × zW} {p : Nat} (h : t.1 ≤ p) : tq t p = p := by
  unfold tq
  rw [show t.1 - p = 0 by omega]
  rfl
/-- the class shows the text -/
def zTc (I : Nat → Nat → Int32) (t : Nat × zW) : Prop := I 53 1 = nI t.1 ∧ ∀ k, k < t.1 → I 54 k = nI (t.2 k)
def zTw (t : Nat × zW) : Prop := t.1 ≤ 250 ∧ ∀ k, k < t.1 → t.2 k < 256
def z53 (I J : Nat → Nat → Int32) : Prop := (∀ i, i ≠ 53 → J i = I i) ∧ J 53 1 = I 53 1
theorem z53.rf {I : Nat → Nat → Int32} : z53 I I := ⟨fun _ _ => rfl, rfl⟩
theorem z53.trans {I J K : Nat → Nat → Int32} (h : z53 I J) (h' : z53 J K) : z53 I K := ⟨fun i hi => (h'.1 i hi).trans (h.1 i hi), h'.2.trans h.2⟩
theorem z53.up {I J : Nat → Nat → Int32} {k : Nat} {x : Int32} (h : z53 I J) (hk : k ≠ 1) : z53 I (zup J 53 k x) := ⟨fun i hi => (zup_ne hi).trans (h.1 i hi), by rw [zup_self]; simp only [upd]; rw [if_neg (fun q => hk q.symm)]; exact h.2⟩
theorem z53.tc {I J : Nat → Nat → Int32} {t : Nat × zW} (h : z53 I J) (ht : zTc I t) : zTc J t := ⟨h.2.trans ht.1, fun k hk => by rw [h.1 54 (by decide)]; exact ht.2 k hk⟩
section TOK
variable {d b : Nat} {I : Nat → Nat → Int32} {L : Nat → Nat → Int64}
theorem kX7_tokenBegunBy {c : Nat} (hc : c < 256) : zCall d mX7_tokenBegunBy [.int (nI c)] (zh b I L) (some (.int (nI (ztb c))), zh b I L) := by
  have a1 : nI c < 97 ↔ c < 97 := nI_ltI (b := 97) (by omega) (by decide)
  have a2 : (122 : Int32) < nI c ↔ 122 < c := nI_ltI (a := 122) (by decide) (by omega)
  have a3 : nI c < 48 ↔ c < 48 := nI_ltI (b := 48) (by omega) (by decide)
  have a4 : (57 : Int32) < nI c ↔ 57 < c := nI_ltI (a := 57) (by decide) (by omega)
  have a5 : nI c = 59 ↔ c = 59 := nIc (c := 59) (by omega) (by decide)
  refine zCall.of okX7_tokenBegunBy (Nat.le_of_ble_eq_true rfl) ⟨Nat.le_refl _, Nat.le_refl _⟩ (fun G => tX7_tokenBegunBy_0 ?_)
  rw [a1, a2, a3, a4, a5]
  have e : ∀ n : Nat, ztb c = n → ((some (.int (nI (ztb c))), zh b I L) : zR) = (some (.int (nI n)), zh b I L) := fun n hn => by rw [hn]
  refine ⟨fun q1 => ⟨fun q3 => ⟨fun q5 => e 4 ?_, fun q5 => e 3 ?_⟩, fun q3 => ⟨fun q4 => ⟨fun q5 => e 4 ?_, fun q5 => e 3 ?_⟩, fun q4 => e 2 ?_⟩⟩, fun q1 => ⟨fun q2 => ⟨fun q3 => ⟨fun q5 => e 4 ?_, fun q5 => e 3 ?_⟩, fun q3 => ⟨fun q4 => ⟨fun q5 => e 4 ?_, fun q5 => e 3 ?_⟩, fun q4 => e 2 ?_⟩⟩, fun q2 => e 1 ?_⟩⟩
  all_goals (unfold ztb; (repeat' split) <;> omega)
theorem kX7_run {t : Nat × zW} {k q : Nat} (hw : zTw t) (hk : k = 1 ∨ k = 2) (ht : zTc I t) : ∀ m p J, t.1 - p = m → p ≤ t.1 → z53 I J → J 53 3 = nI p → J 53 2 = nI q → J 53 4 = nI k → ∃ J', z53 I J' ∧ J' 53 2 = nI q ∧ J' 53 3 = nI (zrn t k (t.1 - p) p) ∧ J' 53 4 = nI k ∧ ∀ G, zA G (d + 1) mX7_nextToken 110 [some (.ref 53), some (.int 1)] [] (zh b J L) (none, zh b J' L) := by
  obtain ⟨h250, h256⟩ := hw
  intro m
  induction m with
  | zero =>
    intro p J hm hp hJ h3 h2 h4
    have : p = t.1 := by omega
    subst this
    refine ⟨J, hJ, h2, by rw [Nat.sub_self]; exact h3, h4, fun G => tX7_nextToken_110 zR0.w ⟨fun q => absurd q (by decide), fun _ => ⟨fun _ => rfl, fun q => absurd (by rw [(hJ.tc ht).1, h3]; exact nI_le (Nat.le_refl _) (by omega)) q⟩⟩⟩
  | succ m ih =>
    intro p J hm hp hJ h3 h2 h4
    have tc := hJ.tc ht
    have hb := h256 p (by omega)
    have kt := kX7_tokenBegunBy (d := d) (b := b) (I := J) (L := L) hb
    have c : nI (ztb (t.2 p)) = nI k ↔ ztb (t.2 p) = k := nI_eq (by have := ztb_le (t.2 p); omega) (by omega)
    by_cases z : ztb (t.2 p) = k
    · obtain ⟨J', g1, g2, g3, g4, g5⟩ := ih (p + 1) (zup J 53 3 (nI (p + 1))) (by omega) (by omega) (hJ.up (by decide)) (by simp [zup]) (by simp [zup]; exact h2) (by simp [zup]; exact h4)
      refine ⟨J', g1, g2, ?_, g4, fun G => tX7_nextToken_110 zR0.w ⟨fun q => absurd q (by decide), fun _ => ⟨fun q => absurd q (by rw [tc.1, h3]; exact nI_ge (by omega) (by omega)), fun _ => ?_⟩⟩⟩
      · rw [g3, show t.1 - p = (t.1 - (p + 1)) + 1 by omega]
        simp only [zrn]
        rw [if_pos z]
      · rw [h3, zx_nI (by omega), tc.2 p (by omega), h4, nI_1]
        exact ⟨zv_in (by omega) (by decide), _, kt, fun q => absurd (c.mpr z) q, fun _ => g5 G⟩
    · refine ⟨J, hJ, h2, ?_, h4, fun G => tX7_nextToken_110 zR0.w ⟨fun q => absurd q (by decide), fun _ => ⟨fun q => absurd q (by rw [tc.1, h3]; exact nI_ge (by omega) (by omega)), fun _ => ?_⟩⟩⟩
      · rw [h3, show t.1 - p = (t.1 - (p + 1)) + 1 by omega]
        simp only [zrn]
        rw [if_neg z]
      · rw [h3, zx_nI (by omega), tc.2 p (by omega), h4]
        exact ⟨zv_in (by omega) (by decide), _, kt, fun _ => rfl, fun q => absurd (c.mp q) z⟩
theorem kX7_nextToken {t : Nat × zW} {p : Nat} (hw : zTw t) (ht : zTc I t) (hp : p ≤ t.1) (h3 : I 53 3 = nI p) : ∃ J, z53 I J ∧ J 53 2 = nI (tq t p) ∧ J 53 3 = nI (te t p) ∧ J 53 4 = nI (tk t p) ∧ zCall (d + 1) mX7_nextToken [.ref 53] (zh b I L) (none, zh b J L) := by
  obtain ⟨h250, h256⟩ := id hw
  have skip : ∀ m p J, t.1 - p = m → p ≤ t.1 → z53 I J → J 53 3 = nI p → ∃ J', z53 I J' ∧ J' 53 2 = nI (tq t p) ∧ J' 53 3 = nI (te t p) ∧ J' 53 4 = nI (tk t p) ∧ ∀ G, zA G (d + 1) mX7_nextToken 0 [some (.ref 53), none] [] (zh b J L) (none, zh b J' L) := by
    intro m
    induction m with
    | zero =>
      intro p J hm hp hJ h3
      have hpe : p = t.1 := by omega
      have tc := hJ.tc ht
      have q0 : tq t p = p := tq_end (by omega)
      have k0 : tk t p = 0 := by unfold tk; rw [q0]; exact tkq_0.mpr (by omega)
      have e0 : te t p = p := by
        unfold te teq
        rw [show tkq t (tq t p) = 0 from k0, if_pos rfl, q0]
      refine ⟨zup (zup J 53 2 (nI p)) 53 4 0, (hJ.up (by decide)).up (by decide), by simp [zup, q0], by simp [zup, e0]; exact h3, by simp [zup, k0]; rfl, fun G => tX7_nextToken_0 zR0.w ⟨fun _ => ?_, fun q => absurd (by rw [tc.1, h3, hpe]; exact nI_le (Nat.le_refl _) (by omega)) q⟩⟩
      rw [h3]
      rintro I2 rfl
      have x1 : zup (zup J 53 2 (nI p)) 53 4 0 53 1 = nI t.1 := by simp [zup]; exact tc.1
      have x3 : zup (zup J 53 2 (nI p)) 53 4 0 53 3 = nI p := by simp [zup]; exact h3
      have x4 : zup (zup J 53 2 (nI p)) 53 4 0 53 4 = 0 := by simp [zup]
      rw [x1, x3, x4]
      exact ⟨fun _ => ⟨fun q => absurd q (by decide), fun _ => ⟨fun _ => tX7_nextToken_110 zR0.w ⟨fun _ => rfl, fun q => absurd rfl q⟩, fun q => absurd q (by decide)⟩⟩, fun q => absurd (by rw [hpe]; exact nI_le (Nat.le_refl _) (by omega)) q⟩
    | succ m ih =>
      intro p J hm hp hJ h3
      have tc := hJ.tc ht
      have hlt : p < t.1 := by omega
      have hb := h256 p hlt
      have c32 : nI (t.2 p) = 32 ↔ t.2 p = 32 := nIc (c := 32) (by omega) (by decide)
      have nle : ¬ J 53 1 ≤ J 53 3 := by rw [tc.1, h3]; exact nI_ge hlt (by omega)
      by_cases z : t.2 p = 32
      · obtain ⟨J', g1, g2, g3, g4, g5⟩ := ih (p + 1) (zup J 53 3 (nI (p + 1))) (by omega) (by omega) (hJ.up (by decide)) (by simp [zup])
        have eq := tq_sp hlt z
        refine ⟨J', g1, by rw [eq]; exact g2, by unfold te; rw [eq]; exact g3, by unfold tk; rw [eq]; exact g4, fun G => tX7_nextToken_0 zR0.w ⟨fun q => absurd q nle, fun _ => ?_⟩⟩
        rw [h3, zx_nI (by omega), tc.2 p hlt, nI_1]
        exact ⟨zv_in (by omega) (by decide), fun q => absurd (c32.mpr z) q, fun _ => g5 G⟩
      · have q0 : tq t p = p := tq_no hlt z
        have k0 : tk t p = ztb (t.2 p) := by unfold tk; rw [q0]; unfold tkq; rw [if_pos hlt]
        have kb := ztb_le (t.2 p)
        have x1 : zup (zup J 53 2 (nI p)) 53 4 0 53 1 = nI t.1 := by simp [zup]; exact tc.1
        have x3 : zup (zup J 53 2 (nI p)) 53 4 0 53 3 = nI p := by simp [zup]; exact h3
        have x54 : zup (zup J 53 2 (nI p)) 53 4 0 54 p = nI (t.2 p) := by rw [zup_ne (by decide), zup_ne (by decide)]; exact tc.2 p hlt
        have y3 : zup (zup (zup J 53 2 (nI p)) 53 4 0) 53 4 (nI (ztb (t.2 p))) 53 3 = nI p := by simp [zup]; exact h3
        have hY : z53 I (zup (zup (zup (zup J 53 2 (nI p)) 53 4 0) 53 4 (nI (ztb (t.2 p)))) 53 3 (nI (p + 1))) := (((hJ.up (by decide)).up (by decide)).up (by decide)).up (by decide)
        have z4 : zup (zup (zup (zup J 53 2 (nI p)) 53 4 0) 53 4 (nI (ztb (t.2 p)))) 53 3 (nI (p + 1)) 53 4 = nI (ztb (t.2 p)) := by simp [zup]
        have z3 : zup (zup (zup (zup J 53 2 (nI p)) 53 4 0) 53 4 (nI (ztb (t.2 p)))) 53 3 (nI (p + 1)) 53 3 = nI (p + 1) := by simp [zup]
        have z2 : zup (zup (zup (zup J 53 2 (nI p)) 53 4 0) 53 4 (nI (ztb (t.2 p)))) 53 3 (nI (p + 1)) 53 2 = nI p := by simp [zup]
        have c1 : nI (ztb (t.2 p)) = 1 ↔ ztb (t.2 p) = 1 := nIc (c := 1) (by omega) (by decide)
        have c2 : nI (ztb (t.2 p)) = 2 ↔ ztb (t.2 p) = 2 := nIc (c := 2) (by omega) (by decide)
        have kt := kX7_tokenBegunBy (d := d) (b := b) (I := zup (zup J 53 2 (nI p)) 53 4 0) (L := L) hb
        by_cases y : ztb (t.2 p) = 1 ∨ ztb (t.2 p) = 2
        · obtain ⟨J', g1, g2, g3, g4, g5⟩ := kX7_run (d := d) (b := b) (L := L) (q := p) hw y ht (t.1 - (p + 1)) (p + 1) _ rfl (by omega) hY z3 z2 z4
          have e0 : te t p = zrn t (ztb (t.2 p)) (t.1 - (p + 1)) (p + 1) := by
            unfold te teq
            rw [show tkq t (tq t p) = ztb (t.2 p) from k0, if_neg (by omega), if_pos y, q0]
          refine ⟨J', g1, by rw [q0]; exact g2, by rw [e0]; exact g3, by rw [k0]; exact g4, fun G => tX7_nextToken_0 zR0.w ⟨fun q => absurd q nle, fun _ => ?_⟩⟩
          rw [h3, zx_nI (by omega), tc.2 p hlt]
          refine ⟨zv_in (by omega) (by decide), fun _ => ?_, fun q => absurd (c32.mp q) z⟩
          rintro I15 rfl
          rw [x1, x3]
          refine ⟨fun q => absurd q (nI_ge hlt (by omega)), fun _ => ⟨zv_in (by omega) (by decide), nI (ztb (t.2 p)), by rw [zx_nI (by omega), x54]; exact kt, ?_⟩⟩
          rintro I22 rfl I23 rfl
          rw [y3, nI_1, z4, c1, c2]
          exact ⟨fun _ => g5 G, fun n1 => ⟨fun n2 => absurd y (by omega), fun _ => g5 G⟩⟩
        · have e0 : te t p = p + 1 := by
            unfold te teq
            rw [show tkq t (tq t p) = ztb (t.2 p) from k0, if_neg (by omega), if_neg y, q0]
          refine ⟨_, hY, by rw [q0]; exact z2, by rw [e0]; exact z3, by rw [k0]; exact z4, fun G => tX7_nextToken_0 zR0.w ⟨fun q => absurd q nle, fun _ => ?_⟩⟩
          rw [h3, zx_nI (by omega), tc.2 p hlt]
          refine ⟨zv_in (by omega) (by decide), fun _ => ?_, fun q => absurd (c32.mp q) z⟩
          rintro I15 rfl
          rw [x1, x3]
          refine ⟨fun q => absurd q (nI_ge hlt (by omega)), fun _ => ⟨zv_in (by omega) (by decide), nI (ztb (t.2 p)), by rw [zx_nI (by omega), x54]; exact kt, ?_⟩⟩
          rintro I22 rfl I23 rfl
          rw [y3, nI_1, z4, c1, c2]
          exact ⟨fun n1 => absurd (Or.inl n1) y, fun _ => ⟨fun _ => tX7_nextToken_110 zR0.w ⟨fun _ => rfl, fun q => absurd rfl q⟩, fun n2 => absurd (Or.inr n2) y⟩⟩
  obtain ⟨J', g1, g2, g3, g4, g5⟩ := skip (t.1 - p) p I rfl hp z53.rf h3
  exact ⟨J', g1, g2, g3, g4, zCall.of okX7_nextToken (Nat.le_of_ble_eq_true rfl) ⟨Nat.le_refl _, Nat.le_refl _⟩ (fun G => g5 G)⟩
end TOK
