/-! the cheese: ways by which it comes to a lane; pairs: cheese, fence -/
def wth (w : zW) (g : Nat → Nat) (r : Nat) : Nat → Nat → Nat
  | 0, _ => 0
  | n + 1, l => wth w g r n l + (if w (53 + (6 * r + n)) = 1 then (if wstp (w 1) n 1 = l then g n else 0) + (if wstp (w 1) n 2 = l then g n else 0) else (if n = l then g n else 0) + (if n = l then g n else 0))
def wwy (w : zW) (f : Nat) : Nat → Nat → Nat
  | 0 => fun l => if l = f then 1 else 0
  | r + 1 => fun l => wth w (wwy w f r) r (w 1) l
def wsg (q : Nat → Nat) (f : Nat) : Nat → Nat
  | 0 => 0
  | n + 1 => wsg q f n + q (f + n)
theorem wsg_one (a c : Nat) : ∀ n, wsg (fun l => if a = l then c else 0) 0 n = if a < n then c else 0 := by
  intro n
  induction n with
  | zero => rfl
  | succ n ih =>
    show wsg _ 0 n + (if a = 0 + n then c else 0) = _
    rw [ih, Nat.zero_add]
    by_cases h1 : a < n
    · rw [if_pos h1, if_neg (by omega), if_pos (by omega)]; rfl
    · by_cases h2 : a = n
      · rw [if_neg h1, if_pos h2, if_pos (by omega)]; exact Nat.zero_add c
      · rw [if_neg h1, if_neg h2, if_neg (by omega)]
theorem wsg_add (p q : Nat → Nat) (f : Nat) : ∀ n, wsg (fun l => p l + q l) f n = wsg p f n + wsg q f n := by
  intro n
  induction n with
  | zero => rfl
  | succ n ih =>
    show wsg _ f n + (p (f + n) + q (f + n)) = (wsg p f n + p (f + n)) + (wsg q f n + q (f + n))
    rw [ih]; omega
theorem wsg_0 (f : Nat) : ∀ n, wsg (fun _ => 0) f n = 0 := by
  intro n
  induction n with
  | zero => rfl
  | succ n ih => show wsg _ f n + 0 = 0; rw [ih]
theorem wth_sum {w : zW} {g : Nat → Nat} {r : Nat} : ∀ m, m ≤ w 1 → wsg (fun l => wth w g r m l) 0 (w 1) = 2 * wsg g 0 m := by
  intro m
  induction m with
  | zero => intro _; exact wsg_0 0 _
  | succ m ih =>
    intro hm
    have h1 : wstp (w 1) m 1 < w 1 := wstp_lt (by omega)
    have h2 : wstp (w 1) m 2 < w 1 := wstp_lt (by omega)
    show _ = 2 * (wsg g 0 m + g (0 + m))
    rw [Nat.zero_add]
    by_cases z : w (53 + (6 * r + m)) = 1
    · have e : (fun l => wth w g r (m + 1) l) = fun l => (fun l => wth w g r m l) l + (fun l => (fun l => if wstp (w 1) m 1 = l then g m else 0) l + (fun l => if wstp (w 1) m 2 = l then g m else 0) l) l := by
        funext l; simp only [wth]; rw [if_pos z]
      rw [e, wsg_add, wsg_add, wsg_one, wsg_one, if_pos h1, if_pos h2, ih (by omega)]
      omega
    · have e : (fun l => wth w g r (m + 1) l) = fun l => (fun l => wth w g r m l) l + (fun l => (fun l => if m = l then g m else 0) l + (fun l => if m = l then g m else 0) l) l := by
        funext l; simp only [wth]; rw [if_neg z]
      rw [e, wsg_add, wsg_add, wsg_one, if_pos (by omega), ih (by omega)]
      omega
theorem wsg_c {p q : Nat → Nat} {f : Nat} : ∀ n, (∀ l, l < n → p (f + l) = q (f + l)) → wsg p f n = wsg q f n := by
  intro n
  induction n with
  | zero => intro _; rfl
  | succ n ih => intro h; show wsg p f n + p (f + n) = wsg q f n + q (f + n); rw [ih (fun l hl => h l (by omega)), h n (by omega)]
theorem wwy_sum {w : zW} {f : Nat} (hf : f < w 1) : ∀ r, wsg (wwy w f r) 0 (w 1) = 2 ^ r := by
  intro r
  induction r with
  | zero =>
    have e : wwy w f 0 = fun l => if f = l then 1 else 0 := by
      funext l
      show (if l = f then 1 else 0) = _
      by_cases z : l = f
      · rw [if_pos z, if_pos z.symm]
      · rw [if_neg z, if_neg (fun q => z q.symm)]
    rw [e, wsg_one, if_pos hf]
  | succ r ih =>
    show wsg (fun l => wth w (wwy w f r) r (w 1) l) 0 (w 1) = _
    rw [wth_sum _ (Nat.le_refl _), ih, Nat.pow_succ, Nat.mul_comm]
theorem wsg_mem {q : Nat → Nat} {l : Nat} : ∀ n, l < n → q l ≤ wsg q 0 n := by
  intro n
  induction n with
  | zero => intro h; exact absurd h (Nat.not_lt_zero l)
  | succ n ih =>
    intro h
    show _ ≤ wsg q 0 n + q (0 + n)
    by_cases z : l = n
    · subst z; rw [Nat.zero_add]; omega
    · have := ih (by omega); omega
theorem wwy_le {w : zW} {f r l : Nat} (hf : f < w 1) (hl : l < w 1) : wwy w f r l ≤ 2 ^ r := by
  rw [← wwy_sum hf r]
  exact wsg_mem _ hl
theorem wwy_p {w : zW} {f r l : Nat} (hf : f < w 1) (hl : l < w 1) (h8 : w 0 ≤ 8) (hr : r ≤ w 0) : wwy w f r l * 2 ^ (w 0 - r) ≤ 256 := by
  have h1 : wwy w f r l * 2 ^ (w 0 - r) ≤ 2 ^ r * 2 ^ (w 0 - r) := Nat.mul_le_mul_right _ (wwy_le hf hl)
  rw [← Nat.pow_add, show r + (w 0 - r) = w 0 by omega] at h1
  exact Nat.le_trans h1 (Nat.pow_le_pow_right (n := 2) (by decide) h8)
theorem shl1 {k : Nat} (h : k ≤ 8) : (1 : Int32) <<< (nI k &&& 31) = nI (2 ^ k) := by
  rcases (by omega : k = 0 ∨ k = 1 ∨ k = 2 ∨ k = 3 ∨ k = 4 ∨ k = 5 ∨ k = 6 ∨ k = 7 ∨ k = 8) with rfl | rfl | rfl | rfl | rfl | rfl | rfl | rfl | rfl <;> decide
theorem shl1L {k : Nat} (h : k ≤ 8) : (1 : Int64) <<< ((nI k).toInt64 &&& 63) = lN (2 ^ k) := by
  rcases (by omega : k = 0 ∨ k = 1 ∨ k = 2 ∨ k = 3 ∨ k = 4 ∨ k = 5 ∨ k = 6 ∨ k = 7 ∨ k = 8) with rfl | rfl | rfl | rfl | rfl | rfl | rfl | rfl | rfl <;> decide
theorem shlp {p k : Nat} (h : k ≤ 8) (hp : p ≤ 100) : nI p <<< (nI k &&& 31) = nI (p * 2 ^ k) := by
  rcases (by omega : k = 0 ∨ k = 1 ∨ k = 2 ∨ k = 3 ∨ k = 4 ∨ k = 5 ∨ k = 6 ∨ k = 7 ∨ k = 8) with rfl | rfl | rfl | rfl | rfl | rfl | rfl | rfl | rfl <;> exact pk_shlN _ _ (by decide) (by omega)
def z52 (I I' : Nat → Nat → Int32) : Prop := ∀ i, (i ≠ 51 ∧ i ≠ 52) → I' i = I i
theorem z52.trans {I I' I'' : Nat → Nat → Int32} (h : z52 I I') (h' : z52 I' I'') : z52 I I'' := fun i hi => (h' i hi).trans (h i hi)
theorem z52.up {I I' : Nat → Nat → Int32} {a k : Nat} {x : Int32} (h : z52 I I') (ha : a = 51 ∨ a = 52) : z52 I (zup I' a k x) := fun j hj => (zup_ne (by omega)).trans (h j hj)
theorem z52.fill {I I' : Nat → Nat → Int32} {a n : Nat} {x : Int32} (h : z52 I I') (ha : a = 51 ∨ a = 52) : z52 I (zfill I' a n x) := fun j hj => (zfill_ne (by omega)).trans (h j hj)
theorem z52.row {I I' : Nat → Nat → Int32} {a : Nat} {f : Nat → Int32} (h : z52 I I') (ha : a = 51 ∨ a = 52) : z52 I (zrow I' a f) := fun j hj => (zrow_ne (by omega)).trans (h j hj)
theorem z52.hr {I I' : Nat → Nat → Int32} {q : Nat} {w : zW} (hI : z52 I I') (hq : q + 8 < 44) (h : hr (zat I q) w) : hr (zat I' q) w := h.congr (fun k hk => hI (q + k) (by omega))
theorem zCl.w52 {b : Nat} {I I' : Nat → Nat → Int32} {L : Nat → Nat → Int64} {σ : zσ} (h : zCl b I L σ) (hI : z52 I I') : zCl b I' L σ := h.idle (fun i hi => hI i (by omega)) (by rw [hI 53 (by omega)]) (fun k _ => by rw [hI 54 (by omega)])
theorem z52.hi {I I' : Nat → Nat → Int32} (hI : z52 I I') : zhi I I' := fun i hi => hI i (by omega)
theorem nI_addm (a c p : Nat) : nI (a * p) + nI (c * p) = nI ((a + c) * p) := by rw [nI_add, Nat.add_mul]
section ROLL
variable {d b : Nat} {I : Nat → Nat → Int32} {L : Nat → Nat → Int64}
theorem kX1_roll {o f : Nat} {w : zW} (ho : zhl o) (hw : winv w) (h : hr (zat I o) w) (hf : f < w 1) : ∃ J, z52 I J ∧ (∀ l, l < 6 → J 51 l = nI (wwy w f (w 0) l)) ∧ zCall (d + 1) mX1_roll [.ref 50, .ref o, .int (nI f)] (zh b I L) (none, zh b J L) := by
  obtain ⟨⟨w0, w1, w2, w3, w4⟩, -⟩ := id hw
  have ho44 : o + 8 < 44 := by rcases ho with rfl | rfl | rfl | rfl <;> omega
  have key := z_for (n := w 0) (P := fun r => ∀ J, z52 I J → (∀ l, l < 6 → J 51 l = nI (wwy w f r l * 2 ^ (w 0 - r))) → ∃ J', z52 I J' ∧ (∀ l, l < 6 → J' 51 l = nI (wwy w f (w 0) l)) ∧ ∀ G, zA G (d + 1) mX1_roll 22 [some (.ref 50), some (.ref o), some (.int (nI f)), some (.int (nI r)), none] [] (zh b J L) (none, zh b J' L)) ?_ ?_ 0 (Nat.zero_le _)
  · have e0 : zfill I 51 6 0 o 0 = nI (w 0) := by rw [zfill_ne (by omega)]; exact h.1.1
    obtain ⟨J', h1, h2, h3⟩ := key (zup (zfill I 51 6 0) 51 f (nI (2 ^ w 0))) ((z52.fill (fun _ _ => rfl) (Or.inl rfl)).up (Or.inl rfl)) (fun l hl => by
      simp only [zup, zfill, wwy]
      by_cases z : l = f
      · subst z; simp
      · simp [z, hl]; rfl)
    refine ⟨J', h1, h2, zCall.of okX1_roll (Nat.le_of_ble_eq_true rfl) ⟨Nat.le_refl _, Nat.le_refl _⟩ (fun G => tX1_roll_0 ho zR0.w ⟨_, kfill rfl (by decide) (by decide) 0, ?_⟩)⟩
    rw [e0, shl1 (by omega), zx_nI (by omega)]
    exact ⟨zv_in (by omega) (by decide), h3 G⟩
  · intro J hJ hp
    have e0 : J o 0 = nI (w 0) := (hJ.hr ho44 h).1.1
    refine ⟨J, hJ, fun l hl => ?_, fun G => tX1_roll_22 ho zR0.w ⟨fun _ => rfl, fun q => absurd (by rw [e0]; exact nI_le (Nat.le_refl _) (by omega)) q⟩⟩
    rw [hp l hl, Nat.sub_self, Nat.pow_zero, Nat.mul_one]
  · intro r hr ih J hJ hp
    have e0 : J o 0 = nI (w 0) := (hJ.hr ho44 h).1.1
    have ep : w 0 - r = (w 0 - (r + 1)) + 1 := by omega
    have inner := z_for (n := w 1) (P := fun n => ∀ J, z52 I J → (∀ l, l < 6 → J 51 l = nI (wwy w f r l * 2 ^ (w 0 - r))) → (∀ l, l < 6 → J 52 l = nI (wth w (wwy w f r) r n l * 2 ^ (w 0 - (r + 1)))) → ∃ J', z52 I J' ∧ (∀ l, l < 6 → J' 51 l = nI (wwy w f (w 0) l)) ∧ ∀ G, zA G (d + 1) mX1_roll 41 [some (.ref 50), some (.ref o), some (.int (nI f)), some (.int (nI r)), some (.int (nI n))] [] (zh b J L) (none, zh b J' L)) ?_ ?_ 0 (Nat.zero_le _)
    · obtain ⟨J', h1, h2, h3⟩ := inner (zfill J 52 6 0) (hJ.fill (Or.inr rfl)) (fun l hl => by rw [zfill_ne (by decide)]; exact hp l hl) (fun l hl => by
        simp only [zfill, wth]
        rw [if_pos ⟨trivial, hl⟩, Nat.zero_mul]; rfl)
      exact ⟨J', h1, h2, fun G => tX1_roll_22 ho zR0.w ⟨fun q => absurd q (by rw [e0]; exact nI_ge hr (by omega)), fun _ => ⟨_, kfill rfl (by decide) (by decide) 0, h3 G⟩⟩⟩
    · intro J hJ hp hn
      have e1 : J o 1 = nI (w 1) := (hJ.hr ho44 h).1.2.1
      obtain ⟨J', h1, h2, h3⟩ := ih (zrow J 51 (va_cpy (J 52) (J 51) 0 0 6)) (hJ.row (Or.inl rfl)) (fun l hl => by
        rw [zrow_self]
        show (if 0 ≤ l ∧ l < 0 + 6 then J 52 (0 + (l - 0)) else J 51 l) = _
        rw [if_pos (by omega), show 0 + (l - 0) = l by omega, hn l hl]
        rfl)
      refine ⟨J', h1, h2, fun G => tX1_roll_41 ho zR0.w ⟨fun _ => ⟨by decide, ?_⟩, fun q => absurd (by rw [e1]; exact nI_le (Nat.le_refl _) (by omega)) q⟩⟩
      rw [nI_1]
      exact h3 G
    · intro n hn ih2 J hJ hp ht
      have hh := hJ.hr ho44 h
      have e1 : J o 1 = nI (w 1) := hh.1.2.1
      have eg : J (o + 2) (6 * r + n) = nI (w (53 + (6 * r + n))) := hh.2.2.1 _ (by omega)
      have g3 := hw.2.2.1 (6 * r + n) (by omega)
      have cg : nI (w (53 + (6 * r + n))) = (1 : Int32) ↔ w (53 + (6 * r + n)) = 1 := nIc (c := 1) (by omega) (by decide)
      have h1 : wstp (w 1) n 1 < w 1 := wstp_lt hn
      have h2 : wstp (w 1) n 2 < w 1 := wstp_lt hn
      have l1 : zlb (nI (w 1)) (nI n) 1 = nI (wstp (w 1) n 1) := zlb_nat (s := 1) (by omega) (by omega) (by omega) (by decide)
      have l2 : zlb (nI (w 1)) (nI n) 2 = nI (wstp (w 1) n 2) := zlb_nat (s := 2) (by omega) (by omega) (by omega) (by decide)
      have bd := wwy_p (r := r) hf hn w0.2 (by omega)
      have half : nI (wwy w f r n * 2 ^ (w 0 - r)) / 2 = nI (wwy w f r n * 2 ^ (w 0 - (r + 1))) := by
        rw [ndiv2 (by omega), ep, Nat.pow_succ, ← Nat.mul_assoc, Nat.mul_div_cancel _ (by decide)]
      by_cases z : w (53 + (6 * r + n)) = 1
      · obtain ⟨J', g1, g2, gg⟩ := ih2 (zup (zup J 52 (wstp (w 1) n 1) (J 52 (wstp (w 1) n 1) + nI (wwy w f r n * 2 ^ (w 0 - (r + 1))))) 52 (wstp (w 1) n 2) ((zup J 52 (wstp (w 1) n 1) (J 52 (wstp (w 1) n 1) + nI (wwy w f r n * 2 ^ (w 0 - (r + 1))))) 52 (wstp (w 1) n 2) + nI (wwy w f r n * 2 ^ (w 0 - (r + 1))))) ((hJ.up (Or.inr rfl)).up (Or.inr rfl)) (fun l hl => by rw [zup_ne (by decide), zup_ne (by decide)]; exact hp l hl) (fun l hl => by
          simp only [zup, wth]
          rw [if_pos z]
          by_cases u : wstp (w 1) n 1 = l
          · by_cases v : wstp (w 1) n 2 = l
            · rw [if_pos ⟨trivial, v.symm⟩, if_pos ⟨trivial, by omega⟩, if_pos u, if_pos v, u, ht l hl, nI_addm, nI_addm, Nat.add_assoc]
            · rw [if_neg (fun q => v q.2.symm), if_pos ⟨trivial, u.symm⟩, if_pos u, if_neg v, u, ht l hl, nI_addm]; rfl
          · by_cases v : wstp (w 1) n 2 = l
            · rw [if_pos ⟨trivial, v.symm⟩, if_neg (fun q => u (by omega)), if_neg u, if_pos v, v, ht l hl, nI_addm, Nat.zero_add]
            · rw [if_neg (fun q => v q.2.symm), if_neg (fun q => u q.2.symm), if_neg u, if_neg v, ht l hl]; rfl)
        refine ⟨J', g1, g2, fun G => tX1_roll_41 ho zR0.w ⟨fun q => absurd q (by rw [e1]; exact nI_ge hn (by omega)), fun _ => ?_⟩⟩
        rw [zcellC, zx_nI (show 6 * r + n < 2 ^ 31 by omega), eg, e1, l1, zx_nI (show n < 2 ^ 31 by omega), zx_nI (show wstp (w 1) n 1 < 2 ^ 31 by omega), zup_ne (show o ≠ 52 by omega), zup_ne (show 51 ≠ 52 by decide), e1, l2, zx_nI (show wstp (w 1) n 2 < 2 ^ 31 by omega), hp n (by omega), half, nI_1]
        refine ⟨zv_in (by omega) (by decide), fun q => absurd (cg.mpr z) q, fun _ => ⟨zv_in (by omega) (by decide), zv_in (by omega) (by decide), zv_in (by omega) (by decide), zv_in (by omega) (by decide), zv_in (by omega) (by decide), zv_in (by omega) (by decide), ?_⟩⟩
        rintro I14 rfl
        exact gg G
      · obtain ⟨J', g1, g2, gg⟩ := ih2 (zup J 52 n (J 52 n + nI (wwy w f r n * 2 ^ (w 0 - r)))) (hJ.up (Or.inr rfl)) (fun l hl => by rw [zup_ne (by decide)]; exact hp l hl) (fun l hl => by
          simp only [zup, wth]
          rw [if_neg z]
          by_cases u : n = l
          · subst u
            rw [if_pos ⟨trivial, rfl⟩, if_pos rfl, ht n hl, ep, Nat.pow_succ, ← Nat.mul_assoc, nI_add, Nat.mul_two, ← Nat.add_mul, ← Nat.add_mul]
          · rw [if_neg (fun q => u q.2.symm), if_neg u, ht l hl]; rfl)
        refine ⟨J', g1, g2, fun G => tX1_roll_41 ho zR0.w ⟨fun q => absurd q (by rw [e1]; exact nI_ge hn (by omega)), fun _ => ?_⟩⟩
        rw [zcellC, zx_nI (show 6 * r + n < 2 ^ 31 by omega), eg, zx_nI (show n < 2 ^ 31 by omega), hp n (by omega), nI_1]
        exact ⟨zv_in (by omega) (by decide), fun _ => ⟨zv_in (by omega) (by decide), zv_in (by omega) (by decide), zv_in (by omega) (by decide), gg G⟩, fun q => absurd (cg.mp q) z⟩
theorem z63.up {I I' : Nat → Nat → Int32} {a k : Nat} {x : Int32} (h : z63 I I') (ha : 63 ≤ a ∧ a ≤ 73) : z63 I (zup I' a k x) := fun j hj => (zup_ne (by omega)).trans (h j hj)
theorem kX12_rolls {f : Nat} {w : zW} (hw : winv w) (h : ∀ k, k < 463 → I 57 k = nI (w k)) (hf : f < w 1) : ∃ J, z63 I J ∧ (∀ l, l < 6 → J 70 l = nI (wwy w f (w 0) l)) ∧ zCall (d + 1) mX12_rolls [.ref 56, .int (nI f)] (zh b I L) (none, zh b J L) := by
  obtain ⟨⟨w0, w1, w2, w3, w4⟩, -⟩ := id hw
  have key := z_for (n := w 0) (P := fun r => ∀ J, z63 I J → (∀ l, l < 6 → J 70 l = nI (wwy w f r l)) → ∃ J', z63 I J' ∧ (∀ l, l < 6 → J' 70 l = nI (wwy w f (w 0) l)) ∧ ∀ G, zA G (d + 1) mX12_rolls 32 [some (.ref 56), some (.int (nI f)), some (.int (nI r)), none, none] [] (zh b J L) (none, zh b J' L)) ?_ ?_ 0 (Nat.zero_le _)
  · have init := z_for (n := 6) (P := fun n => ∀ J, z63 I J → (∀ l, l < n → J 70 l = nI (wwy w f 0 l)) → ∃ J', z63 I J' ∧ (∀ l, l < 6 → J' 70 l = nI (wwy w f (w 0) l)) ∧ ∀ G, zA G (d + 1) mX12_rolls 2 [some (.ref 56), some (.int (nI f)), some (.int (nI n)), none, none] [] (zh b J L) (none, zh b J' L)) ?_ ?_ 0 (Nat.zero_le _)
    · obtain ⟨J', h1, h2, h3⟩ := init I z63.rf (fun l hl => absurd hl (Nat.not_lt_zero l))
      exact ⟨J', h1, h2, zCall.of okX12_rolls (Nat.le_of_ble_eq_true rfl) ⟨Nat.le_refl _, Nat.le_refl _⟩ (fun G => tX12_rolls_0 (h3 G))⟩
    · intro J hJ hp
      obtain ⟨J', h1, h2, h3⟩ := key J hJ hp
      exact ⟨J', h1, h2, fun G => tX12_rolls_2 ⟨fun _ => h3 G, fun q => absurd (by decide) q⟩⟩
    · intro n hn ih J hJ hp
      obtain ⟨J', h1, h2, h3⟩ := ih (zup J 70 n (nI (wwy w f 0 n))) (hJ.up (by decide)) (fun l hl => by
        simp only [zup]
        by_cases z : l = n
        · subst z; simp
        · rw [if_neg (fun q => z q.2)]; exact hp l (by omega))
      refine ⟨J', h1, h2, fun G => tX12_rolls_2 ⟨fun q => absurd q (nI_ge (b := 6) hn (by decide)), fun _ => ?_⟩⟩
      rw [zx_nI (by omega), nI_1]
      have c : nI n = nI f ↔ n = f := nI_eq (by omega) (by omega)
      have g3 := h3 G
      have ev : wwy w f 0 n = if n = f then 1 else 0 := rfl
      rw [ev] at g3
      refine ⟨fun q => ⟨zv_in hn (by decide), ?_⟩, fun q => ⟨zv_in hn (by decide), ?_⟩⟩
      · rw [if_neg (fun z => q (c.mpr z))] at g3; exact g3
      · rw [if_pos (c.mp q)] at g3; exact g3
  · intro J hJ hp
    have e0 : J 57 0 = nI (w 0) := hJ.now h 0 (by decide)
    exact ⟨J, hJ, hp, fun G => tX12_rolls_32 ⟨fun _ => rfl, fun q => absurd (by rw [e0]; exact nI_le (Nat.le_refl _) (by omega)) q⟩⟩
  · intro r hr ih J hJ hp
    have e0 : J 57 0 = nI (w 0) := hJ.now h 0 (by decide)
    have copy := z_for (n := 6) (P := fun n => ∀ J, z63 I J → (∀ l, l < 6 → J 71 l = nI (wwy w f (r + 1) l)) → (∀ l, l < n → J 70 l = nI (wwy w f (r + 1) l)) → ∃ J', z63 I J' ∧ (∀ l, l < 6 → J' 70 l = nI (wwy w f (w 0) l)) ∧ ∀ G, zA G (d + 1) mX12_rolls 163 [some (.ref 56), some (.int (nI f)), some (.int (nI r)), some (.int (nI n)), none] [] (zh b J L) (none, zh b J' L)) ?_ ?_ 0 (Nat.zero_le _)
    · have inner := z_for (n := w 1) (P := fun n => ∀ J, z63 I J → (∀ l, l < 6 → J 70 l = nI (wwy w f r l)) → (∀ l, l < 6 → J 71 l = nI (wth w (wwy w f r) r n l)) → ∃ J', z63 I J' ∧ (∀ l, l < 6 → J' 70 l = nI (wwy w f (w 0) l)) ∧ ∀ G, zA G (d + 1) mX12_rolls 65 [some (.ref 56), some (.int (nI f)), some (.int (nI r)), some (.int (nI n)), none] [] (zh b J L) (none, zh b J' L)) ?_ ?_ 0 (Nat.zero_le _)
      · have zero := z_for (n := 6) (P := fun n => ∀ J, z63 I J → (∀ l, l < 6 → J 70 l = nI (wwy w f r l)) → (∀ l, l < n → J 71 l = 0) → ∃ J', z63 I J' ∧ (∀ l, l < 6 → J' 70 l = nI (wwy w f (w 0) l)) ∧ ∀ G, zA G (d + 1) mX12_rolls 44 [some (.ref 56), some (.int (nI f)), some (.int (nI r)), some (.int (nI n)), none] [] (zh b J L) (none, zh b J' L)) ?_ ?_ 0 (Nat.zero_le _)
        · obtain ⟨J', h1, h2, h3⟩ := zero J hJ hp (fun l hl => absurd hl (Nat.not_lt_zero l))
          exact ⟨J', h1, h2, fun G => tX12_rolls_32 ⟨fun q => absurd q (by rw [e0]; exact nI_ge hr (by omega)), fun _ => h3 G⟩⟩
        · intro J hJ hp hz
          obtain ⟨J', h1, h2, h3⟩ := inner J hJ hp (fun l hl => by rw [hz l hl]; rfl)
          exact ⟨J', h1, h2, fun G => tX12_rolls_44 ⟨fun _ => h3 G, fun q => absurd (by decide) q⟩⟩
        · intro n hn ih3 J hJ hp hz
          obtain ⟨J', h1, h2, h3⟩ := ih3 (zup J 71 n 0) (hJ.up (by decide)) (fun l hl => by rw [zup_ne (by decide)]; exact hp l hl) (fun l hl => by
            simp only [zup]
            by_cases z : l = n
            · subst z; simp
            · rw [if_neg (fun q => z q.2)]; exact hz l (by omega))
          refine ⟨J', h1, h2, fun G => tX12_rolls_44 ⟨fun q => absurd q (nI_ge (b := 6) hn (by decide)), fun _ => ?_⟩⟩
          rw [zx_nI (by omega), nI_1]
          exact ⟨zv_in hn (by decide), h3 G⟩
      · intro J hJ hp ht
        have e1 : J 57 1 = nI (w 1) := hJ.now h 1 (by decide)
        obtain ⟨J', h1, h2, h3⟩ := copy J hJ ht (fun l hl => absurd hl (Nat.not_lt_zero l))
        exact ⟨J', h1, h2, fun G => tX12_rolls_65 zR0.w ⟨fun _ => h3 G, fun q => absurd (by rw [e1]; exact nI_le (Nat.le_refl _) (by omega)) q⟩⟩
      · intro n hn ih2 J hJ hp ht
        have e1 : J 57 1 = nI (w 1) := hJ.now h 1 (by decide)
        have eg : J 57 (53 + (6 * r + n)) = nI (w (53 + (6 * r + n))) := hJ.now h _ (by omega)
        have g3 := hw.2.2.1 (6 * r + n) (by omega)
        have cg : nI (w (53 + (6 * r + n))) = (1 : Int32) ↔ w (53 + (6 * r + n)) = 1 := nIc (c := 1) (by omega) (by decide)
        have h1 : wstp (w 1) n 1 < w 1 := wstp_lt hn
        have h2 : wstp (w 1) n 2 < w 1 := wstp_lt hn
        have l1 : zlb (nI (w 1)) (nI n) 1 = nI (wstp (w 1) n 1) := zlb_nat (s := 1) (by omega) (by omega) (by omega) (by decide)
        have l2 : zlb (nI (w 1)) (nI n) 2 = nI (wstp (w 1) n 2) := zlb_nat (s := 2) (by omega) (by omega) (by omega) (by decide)
        have ca : zca 1 (nI r) (nI n) = nI (53 + (6 * r + n)) := zcaR (a := 1) (by decide) r n
        by_cases z : w (53 + (6 * r + n)) = 1
        · obtain ⟨J', g1, g2, gg⟩ := ih2 (zup (zup J 71 (wstp (w 1) n 1) (J 71 (wstp (w 1) n 1) + J 70 n)) 71 (wstp (w 1) n 2) ((zup J 71 (wstp (w 1) n 1) (J 71 (wstp (w 1) n 1) + J 70 n)) 71 (wstp (w 1) n 2) + (zup J 71 (wstp (w 1) n 1) (J 71 (wstp (w 1) n 1) + J 70 n)) 70 n)) ((hJ.up (by decide)).up (by decide)) (fun l hl => by rw [zup_ne (by decide), zup_ne (by decide)]; exact hp l hl) (fun l hl => by
            rw [zup_ne (a := 70) (by decide), hp n (by omega)]
            simp only [zup, wth]
            rw [if_pos z]
            by_cases u : wstp (w 1) n 1 = l
            · by_cases v : wstp (w 1) n 2 = l
              · rw [if_pos ⟨trivial, v.symm⟩, if_pos ⟨trivial, by omega⟩, if_pos u, if_pos v, u, ht l hl, nI_add, nI_add, Nat.add_assoc]
              · rw [if_neg (fun q => v q.2.symm), if_pos ⟨trivial, u.symm⟩, if_pos u, if_neg v, u, ht l hl, nI_add]; rfl
            · by_cases v : wstp (w 1) n 2 = l
              · rw [if_pos ⟨trivial, v.symm⟩, if_neg (fun q => u (by omega)), if_neg u, if_pos v, v, ht l hl, nI_add, Nat.zero_add]
              · rw [if_neg (fun q => v q.2.symm), if_neg (fun q => u q.2.symm), if_neg u, if_neg v, ht l hl]; rfl)
          refine ⟨J', g1, g2, fun G => tX12_rolls_65 zR0.w ⟨fun q => absurd q (by rw [e1]; exact nI_ge hn (by omega)), fun _ => ?_⟩⟩
          rw [ca, zx_nI (show 53 + (6 * r + n) < 2 ^ 31 by omega), eg]
          refine ⟨zv_in (by omega) (by decide), fun q => absurd (cg.mpr z) q, fun _ => ⟨fun q => absurd q (by decide), fun _ => ?_⟩⟩
          rw [e1, l1, zx_nI (show n < 2 ^ 31 by omega), zx_nI (show wstp (w 1) n 1 < 2 ^ 31 by omega)]
          refine ⟨zv_in (by omega) (by decide), zv_in (by omega) (by decide), zv_in (by omega) (by decide), fun q => absurd q (by decide), fun _ => ?_⟩
          rw [zup_ne (show 57 ≠ 71 by decide), e1, l2, zx_nI (show wstp (w 1) n 2 < 2 ^ 31 by omega), nI_1]
          refine ⟨zv_in (by omega) (by decide), zv_in (by omega) (by decide), zv_in (by omega) (by decide), ?_⟩
          rintro I28 rfl
          exact gg G
        · obtain ⟨J', g1, g2, gg⟩ := ih2 (zup (zup J 71 n (J 71 n + J 70 n)) 71 n ((zup J 71 n (J 71 n + J 70 n)) 71 n + (zup J 71 n (J 71 n + J 70 n)) 70 n)) ((hJ.up (by decide)).up (by decide)) (fun l hl => by rw [zup_ne (by decide), zup_ne (by decide)]; exact hp l hl) (fun l hl => by
            rw [zup_ne (a := 70) (by decide), hp n (by omega)]
            simp only [zup, wth]
            rw [if_neg z]
            by_cases u : n = l
            · subst u
              rw [if_pos ⟨trivial, rfl⟩, if_pos ⟨trivial, trivial⟩, if_pos rfl, ht n hl, nI_add, nI_add, Nat.add_assoc]
            · rw [if_neg (fun q => u q.2.symm), if_neg (fun q => u q.2.symm), if_neg u, ht l hl]; rfl)
          refine ⟨J', g1, g2, fun G => tX12_rolls_65 zR0.w ⟨fun q => absurd q (by rw [e1]; exact nI_ge hn (by omega)), fun _ => ?_⟩⟩
          rw [ca, zx_nI (show 53 + (6 * r + n) < 2 ^ 31 by omega), eg]
          refine ⟨zv_in (by omega) (by decide), fun _ => ⟨fun _ => ?_, fun q => absurd rfl q⟩, fun q => absurd (cg.mp q) z⟩
          rw [zx_nI (show n < 2 ^ 31 by omega), nI_1]
          refine ⟨zv_in (by omega) (by decide), zv_in (by omega) (by decide), zv_in (by omega) (by decide), fun _ => ⟨zv_in (by omega) (by decide), zv_in (by omega) (by decide), zv_in (by omega) (by decide), ?_⟩, fun q => absurd rfl q⟩
          rintro I12 rfl
          exact gg G
    · intro J hJ _ hp
      obtain ⟨J', h1, h2, h3⟩ := ih J hJ hp
      exact ⟨J', h1, h2, fun G => tX12_rolls_163 ⟨fun _ => by rw [nI_1]; exact h3 G, fun q => absurd (by decide) q⟩⟩
    · intro n hn ih2 J hJ ht hp
      obtain ⟨J', h1, h2, h3⟩ := ih2 (zup J 70 n (J 71 n)) (hJ.up (by decide)) (fun l hl => by rw [zup_ne (by decide)]; exact ht l hl) (fun l hl => by
        simp only [zup]
        by_cases z : l = n
        · subst z; simp only [and_self, if_true]; exact ht l hn
        · rw [if_neg (fun q => z q.2)]; exact hp l (by omega))
      refine ⟨J', h1, h2, fun G => tX12_rolls_163 ⟨fun q => absurd q (nI_ge (b := 6) hn (by decide)), fun _ => ?_⟩⟩
      rw [zx_nI (by omega), nI_1]
      exact ⟨zv_in hn (by decide), zv_in hn (by decide), h3 G⟩
end ROLL
theorem p_cheese (x1 x2 : Int32) : zPair mX11_cheese mX12_cheese [.int x1, .int x2] := by
  refine zPair.of fun σ hi => ?_
  obtain ⟨⟨hw0, hw1, hw2, hw3, hw4⟩, -⟩ := id hi.1
  have f1 : ∀ (x : Int32) {b : Nat} {I : Nat → Nat → Int32} {L : Nat → Nat → Int64}, zCl b I L σ → ((0 ≤ x ∧ x ≤ I b 1 - 1) ↔ zof x (σ.1 1)) := by
    intro x b I L hc
    rw [show I b 1 = nI (σ.1 1) from hc.2.1.1.2.1, zof_c (by omega)]
  have f2 : ∀ (x : Int32) {I : Nat → Nat → Int32} {L : Nat → Nat → Int64}, zRf I L σ → ((0 ≤ x.toInt64 ∧ x.toInt64 ≤ (I 57 1 - 1).toInt64) ↔ zof x (σ.1 1)) := by
    intro x I L hc
    rw [hc.1 1 (by decide), zof_r (by omega)]
  by_cases hv : zof x1 (σ.1 1) ∧ zof x2 (σ.1 1)
  · obtain ⟨f, hf, hxf⟩ := hv.1.nat (by omega)
    obtain ⟨l, hl, hxl⟩ := hv.2.nat (by omega)
    subst hxf hxl
    have b1 : wwy σ.1 f (σ.1 0) l ≤ 256 := Nat.le_trans (wwy_le hf hl) (Nat.pow_le_pow_right (n := 2) (by decide) hw0.2)
    have b2 : 2 ^ (σ.1 0) ≤ 256 := Nat.pow_le_pow_right (n := 2) (by decide) hw0.2
    have b3 : 0 < 2 ^ (σ.1 0) := Nat.pow_pos (by decide)
    refine ⟨.int 1, sFrac σ (wwy σ.1 f (σ.1 0) l) (2 ^ (σ.1 0)), fun d b I L hc => ?_, fun d b I L hc => ?_, hi, Or.inl ⟨rfl, _, rfl⟩⟩
    · obtain ⟨J, h1, h2, h3⟩ := kX1_roll (d := d + 38) (b := b) (L := L) hc.1.hl hi.1 hc.2.1 hf
      have hc' := hc.w52 h1
      have e0 : J b 0 = nI (σ.1 0) := hc'.2.1.1.1
      refine ⟨b, J, _, zCall.of okX11_cheese (Nat.le_of_ble_eq_true rfl) ⟨Nat.le_refl _, Nat.le_refl _⟩ (fun G => tX11_cheese_0 (d := d + 38) hc.1 zR0.w ⟨fun q => absurd ((f1 _ hc).mpr hv.1) q, fun _ => ⟨fun _ => ⟨_, h3, zv_in (by omega) (by decide), _, ?_, rfl⟩, fun q => absurd ((f1 _ hc).mpr hv.2) q⟩⟩), hc'.frac, h1.hi, (zhiL.rf.up (by decide)).up (by decide)⟩
      rw [zx_nI (by omega), h2 l (by omega), nI_L (by omega), e0, shl1L hw0.2]
      exact kX11_setFraction (by omega) (by omega) b3
    · obtain ⟨J, h1, h2, h3⟩ := kX12_rolls (d := d + 38) (b := b) (L := L) hi.1 hc.1 hf
      have e0 : J 57 0 = nI (σ.1 0) := h1.now hc.1 0 (by decide)
      refine ⟨J, _, zCall.of okX12_cheese (Nat.le_of_ble_eq_true rfl) ⟨Nat.le_refl _, Nat.le_refl _⟩ (fun G => tX12_cheese_0 (d := d + 38) zR0.w ⟨fun q => absurd ((f2 _ hc).mpr hv.1) q, fun _ => ⟨fun _ => ⟨_, h3, zv_in (by omega) (by decide), _, _, ?_, rfl⟩, fun q => absurd ((f2 _ hc).mpr hv.2) q⟩⟩), (hc.w63 h1).frac, h1.lo, (zloL.rf.up (by decide)).up (by decide)⟩
      rw [zx_nI (by omega), h2 l (by omega), nI_L (by omega), e0, shl1L hw0.2]
      exact kX12_fraction (by omega) (by omega) b3
  · refine ⟨.int (-2), sBad σ, sc_bad fun d b I L hc => ?_, sr_bad fun d b I L hc => ?_, hi, Or.inl ⟨rfl, _, rfl⟩⟩
    · exact zCall.of okX11_cheese (Nat.le_of_ble_eq_true rfl) ⟨Nat.le_refl _, Nat.le_refl _⟩ (fun G => tX11_cheese_0 (d := d + 38) hc.1 zR0.w ⟨fun _ => xBad _, fun q1 => ⟨fun q3 => absurd ⟨(f1 _ hc).mp q1, (f1 _ hc).mp q3⟩ hv, fun _ => xBad _⟩⟩)
    · exact zCall.of okX12_cheese (Nat.le_of_ble_eq_true rfl) ⟨Nat.le_refl _, Nat.le_refl _⟩ (fun G => tX12_cheese_0 (d := d + 38) zR0.w ⟨fun _ => yBad, fun q1 => ⟨fun q3 => absurd ⟨(f2 _ hc).mp q1, (f2 _ hc).mp q3⟩ hv, fun _ => yBad⟩⟩)
