/-! the whole reading; the class's read -/
def sAll (t : Nat × zW) : Nat → Nat → zW → Nat → Sum Nat (zW × Nat)
  | 0, _, _, _ => .inl 0
  | f + 1, it, w, p => if tk t p = 0 then .inr (w, it) else match sIt t w p with
    | .inl q => .inl q
    | .inr x => sAll t f (it + 1) x.1 x.2
def sRead (t : Nat × zW) : Sum Nat (zW × Nat) := match sHill t with
  | .inl q => .inl q
  | .inr x => sAll t 251 1 x.1 x.2
def sAns (s : Sum Nat (zW × Nat)) : Int32 := match s with | .inl _ => -1 | .inr x => nI x.2
theorem sI3_ok {t : Nat × zW} {h1 h2 h3 p : Nat} {f : Nat → Nat → Nat → zW} {x : zW × Nat} (hp : p ≤ t.1) (h : sI3 t h1 h2 h3 p f = .inr x) : ∃ a b c, a < h1 ∧ b < h2 ∧ c < h3 ∧ a ≤ 99 ∧ b ≤ 99 ∧ c ≤ 99 ∧ x.1 = f a b c ∧ p ≤ x.2 ∧ x.2 ≤ t.1 := by
  have p1 := te_le hp
  have p2 := te_le p1.2.1
  have p3 := te_le p2.2.1
  have p4 := te_le p3.2.1
  unfold sI3 at h
  cases s1 : sN t 0 h1 p with
  | none => rw [s1] at h; cases h
  | some a =>
    rw [s1] at h
    cases s2 : sN t 0 h2 (te t p) with
    | none => simp only [s2] at h; cases h
    | some b =>
      simp only [s2] at h
      cases s3 : sN t 0 h3 (te t (te t p)) with
      | none => simp only [s3] at h; cases h
      | some c =>
        simp only [s3] at h
        by_cases k3 : tk t (te t (te t (te t p))) = 3
        · rw [if_pos k3] at h
          have h := Sum.inr.inj h
          subst h
          have S1 := sN_some s1
          have S2 := sN_some s2
          have S3 := sN_some s3
          exact ⟨a, b, c, S1.2.2.2.2.1, S2.2.2.2.2.1, S3.2.2.2.2.1, S1.2.2.2.2.2, S2.2.2.2.2.2, S3.2.2.2.2.2, rfl, by show p ≤ te t _; omega, by show te t _ ≤ t.1; omega⟩
        · rw [if_neg k3] at h; cases h
theorem sIt_ok {t : Nat × zW} {w : zW} {p : Nat} {x : zW × Nat} (hw : winv w) (hp : p ≤ t.1) (h : sIt t w p = .inr x) : winv x.1 ∧ p < x.2 ∧ x.2 ≤ t.1 := by
  obtain ⟨⟨w0, w1, w2, w3, w4⟩, -⟩ := id hw
  have p1 := te_le hp
  have k1 : ∀ k, isW t k p = true → p < te t p := fun k hk => p1.2.2.2 (by
    have := (of_decide_eq_true hk).1
    omega)
  unfold sIt at h
  by_cases i1 : isW t 1 p = true
  · rw [if_pos i1] at h
    have := k1 1 i1
    obtain ⟨a, b, c, a1, b1, c1, -, -, -, e, q1, q2⟩ := sI3_ok p1.2.1 h
    rw [e]
    exact ⟨hw.slope (by omega) (by omega), by omega, q2⟩
  · rw [if_neg i1] at h
    by_cases i2 : isW t 2 p = true
    · rw [if_pos i2] at h
      have := k1 2 i2
      obtain ⟨a, b, c, a1, b1, c1, -, -, -, e, q1, q2⟩ := sI3_ok p1.2.1 h
      rw [e]
      exact ⟨hw.ground (by omega) (by omega), by omega, q2⟩
    · rw [if_neg i2] at h
      by_cases i3 : isW t 3 p = true
      · rw [if_pos i3] at h
        have := k1 3 i3
        by_cases h6 : w 2 < 6
        · rw [if_pos h6] at h
          obtain ⟨a, b, c, a1, b1, c1, -, -, -, e, q1, q2⟩ := sI3_ok p1.2.1 h
          rw [e]
          exact ⟨hw.run h6 (by omega) b1 (by omega), by omega, q2⟩
        · rw [if_neg h6] at h; cases h
      · rw [if_neg i3] at h
        by_cases i4 : isW t 4 p = true
        · rw [if_pos i4] at h
          have := k1 4 i4
          obtain ⟨a, b, c, a1, b1, c1, -, -, -, e, q1, q2⟩ := sI3_ok p1.2.1 h
          rw [e]
          exact ⟨hw.line a1 (by omega) (by omega), by omega, q2⟩
        · rw [if_neg i4] at h; cases h
theorem sHill_ok {t : Nat × zW} {x : zW × Nat} (h : sHill t = .inr x) : winv x.1 ∧ 1 ≤ x.2 ∧ x.2 ≤ t.1 := by
  have p0 := te_le (t := t) (Nat.zero_le t.1)
  have p1 := te_le p0.2.1
  have p2 := te_le p1.2.1
  have p3 := te_le p2.2.1
  unfold sHill at h
  by_cases iw : isW t 0 0 = true
  · rw [if_pos iw] at h
    have hlt : 0 < te t 0 := p0.2.2.2 (by have := (of_decide_eq_true iw).1; omega)
    cases s1 : sN t 1 9 (te t 0) with
    | none => simp only [s1] at h; cases h
    | some a =>
      simp only [s1] at h
      cases s2 : sN t 1 7 (te t (te t 0)) with
      | none => simp only [s2] at h; cases h
      | some c =>
        simp only [s2] at h
        by_cases k3 : tk t (te t (te t (te t 0))) = 3
        · rw [if_pos k3] at h
          have h := Sum.inr.inj h
          subst h
          have S1 := sN_some s1
          have S2 := sN_some s2
          exact ⟨winv_cl ⟨S1.2.2.2.1, by omega⟩ ⟨S2.2.2.2.1, by omega⟩, by show 1 ≤ te t _; omega, by show te t _ ≤ t.1; omega⟩
        · rw [if_neg k3] at h; cases h
  · rw [if_neg iw] at h; cases h
/-- what the class shows behind its reading -/
def zrc (I0 J : Nat → Nat → Int32) (o : Nat) (s : Sum Nat (zW × Nat)) : Prop := zfr I0 J o ∧ (match s with | .inl q => J 53 2 = nI q | .inr x => hr (zat J o) x.1)
theorem kX7_readAll {d b o : Nat} {I : Nat → Nat → Int32} {L : Nat → Nat → Int64} {t : Nat × zW} (ho : zhl o) (htw : zTw t) (ht : zTc I t) : ∀ f it w p J, it + f = 252 → 1 ≤ it → it ≤ p → p ≤ t.1 → winv w → zfr I J o → hr (zat J o) w → J 53 3 = nI p → ∃ J', zrc I J' o (sAll t f it w p) ∧ ∀ G, zA G (d + 7) mX7_readInto 21 [some (.ref 53), some (.ref o), some (.int (nI it))] [] (zh b J L) (some (.int (sAns (sAll t f it w p))), zh b J' L) := by
  have ho53 : o + 8 < 53 := by rcases ho with rfl | rfl | rfl | rfl <;> omega
  intro f
  induction f with
  | zero =>
    intro it w p J hf h1 hip hp hw hJ hh h3
    have := htw.1
    omega
  | succ f ih =>
    intro it w p J hf h1 hip hp hw hJ hh h3
    have h250 := htw.1
    have tc := hJ.tc ho53 ht
    obtain ⟨J1, f1, q1, e1, k1, c1⟩ := kX7_nextToken (d := d + 5) (b := b) (L := L) htw tc hp h3
    have hk4 := tkq_le t (tq t p)
    have ck : nI (tk t p) = 0 ↔ tk t p = 0 := nIc (c := 0) (by show tkq t (tq t p) < _; omega) (by decide)
    have lim : ¬ (250 : Int32) < nI it := fun z => absurd ((nI_ltI (a := 250) (by decide) (by omega)).mp z) (by omega)
    simp only [sAll]
    by_cases k0 : tk t p = 0
    · rw [if_pos k0]
      refine ⟨J1, ⟨hJ.trans f1.fr, f1.hr ho53 hh⟩, fun G => tX7_readInto_21 ho zR0.w ⟨fun q => absurd q lim, fun _ => ⟨J1, c1, fun q => absurd (by rw [k1]; exact ck.mpr k0) q, fun _ => rfl⟩⟩⟩
    · rw [if_neg k0]
      have nk : ¬ J1 53 4 = 0 := by rw [k1]; exact fun z => k0 (ck.mp z)
      obtain ⟨J2, ok, g1, g2⟩ := kX7_readItem (d := d) (b := b) (L := L) ho hw htw (f1.hr ho53 hh) (f1.tc tc) hp q1 e1 k1
      cases s : sIt t w p with
      | inl q =>
        rw [s] at g1
        obtain ⟨m1, m2, m3⟩ := g1
        exact ⟨J2, ⟨hJ.trans (f1.fr.trans m1), m3⟩, fun G => tX7_readInto_21 ho zR0.w ⟨fun q => absurd q lim, fun _ => ⟨J1, c1, fun _ => ⟨ok, J2, g2, fun z => absurd (z.symm.trans m2) (by decide), fun _ => rfl⟩, fun z => absurd z nk⟩⟩⟩
      | inr x =>
        rw [s] at g1
        obtain ⟨m1, m2, m3, m4⟩ := g1
        obtain ⟨o1, o2, o3⟩ := sIt_ok hw hp s
        obtain ⟨J', r1, r2⟩ := ih (it + 1) x.1 x.2 J2 (by omega) (by omega) (by omega) o3 o1 (hJ.trans (f1.fr.trans m1)) m3 m4
        exact ⟨J', r1, fun G => tX7_readInto_21 ho zR0.w ⟨fun q => absurd q lim, fun _ => ⟨J1, c1, fun _ => ⟨ok, J2, g2, fun _ => by rw [nI_1]; exact r2 G, fun z => absurd (z.symm.trans m2) (by decide)⟩, fun z => absurd z nk⟩⟩⟩
theorem kX7_readInto {d b o : Nat} {I : Nat → Nat → Int32} {L : Nat → Nat → Int64} {t : Nat × zW} (ho : zhl o) (htw : zTw t) (ht : zTc I t) : ∃ J, zrc I J o (sRead t) ∧ zCall (d + 7) mX7_readInto [.ref 53, .ref o] (zh b I L) (some (.int (sAns (sRead t))), zh b J L) := by
  have ho53 : o + 8 < 53 := by rcases ho with rfl | rfl | rfl | rfl <;> omega
  have u0 : z53 I (zup I 53 3 0) := z53.rf.up (by decide)
  obtain ⟨J1, f1, q1, e1, k1, c1⟩ := kX7_nextToken (d := d + 5) (b := b) (L := L) htw (u0.tc ht) (Nat.zero_le _) (by simp [zup]; rfl)
  have tc1 := f1.tc (u0.tc ht)
  obtain ⟨J2, ok, g1, g2⟩ := kX7_readHill (d := d) (b := b) (L := L) ho htw tc1 q1 e1 k1
  have fr1 : zfr I J1 o := (u0.trans f1).fr
  unfold sRead
  cases s : sHill t with
  | inl q =>
    rw [s] at g1
    obtain ⟨m1, m2, m3⟩ := g1
    exact ⟨J2, ⟨fr1.trans m1, m3⟩, zCall.of okX7_readInto (Nat.le_of_ble_eq_true rfl) ⟨Nat.le_refl _, Nat.le_refl _⟩ (fun G => tX7_readInto_0 ho zR0.w ⟨J1, c1, ok, J2, g2, fun z => absurd (z.symm.trans m2) (by decide), fun _ => rfl⟩)⟩
  | inr x =>
    rw [s] at g1
    obtain ⟨m1, m2, m3, m4⟩ := g1
    obtain ⟨o1, o2, o3⟩ := sHill_ok s
    obtain ⟨J', r1, r2⟩ := kX7_readAll (d := d) (b := b) (L := L) ho htw ht 251 1 x.1 x.2 J2 (by omega) (by omega) o2 o3 o1 (fr1.trans m1) m3 m4
    exact ⟨J', r1, zCall.of okX7_readInto (Nat.le_of_ble_eq_true rfl) ⟨Nat.le_refl _, Nat.le_refl _⟩ (fun G => tX7_readInto_0 ho zR0.w ⟨J1, c1, ok, J2, g2, fun _ => r2 G, fun z => absurd (z.symm.trans m2) (by decide)⟩)⟩
theorem zF_swap {b : Nat} (hb : zbl b) : zupF (zupF (zF b) 0 0 (.ref (11 - b))) 0 1 (.ref b) = zF (11 - b) := by
  funext i k
  simp only [zupF]
  rcases hb with rfl | rfl
  · by_cases h1 : i = 0 ∧ k = 1
    · obtain ⟨rfl, rfl⟩ := h1; rfl
    · rw [if_neg h1]
      by_cases h0 : i = 0 ∧ k = 0
      · obtain ⟨rfl, rfl⟩ := h0; rfl
      · rw [if_neg h0]
        unfold zF
        by_cases z : i = 0
        · have k0 : ¬ k = 0 := fun q => h0 ⟨z, q⟩
          have k1 : ¬ k = 1 := fun q => h1 ⟨z, q⟩
          rw [if_pos z, if_pos z, if_neg k0, if_neg k1, if_neg k0, if_neg k1]
        · rw [if_neg z, if_neg z]
  · by_cases h1 : i = 0 ∧ k = 1
    · obtain ⟨rfl, rfl⟩ := h1; rfl
    · rw [if_neg h1]
      by_cases h0 : i = 0 ∧ k = 0
      · obtain ⟨rfl, rfl⟩ := h0; rfl
      · rw [if_neg h0]
        unfold zF
        by_cases z : i = 0
        · have k0 : ¬ k = 0 := fun q => h0 ⟨z, q⟩
          have k1 : ¬ k = 1 := fun q => h1 ⟨z, q⟩
          rw [if_pos z, if_pos z, if_neg k0, if_neg k1, if_neg k0, if_neg k1]
        · rw [if_neg z, if_neg z]
theorem sAns_neg {s : Sum Nat (zW × Nat)} : (∀ q, s = .inl q → sAns s = -1) ∧ (∀ x, s = .inr x → sAns s = nI x.2) := ⟨fun q h => by rw [h]; rfl, fun x h => by rw [h]; rfl⟩
theorem kX11_read {d b : Nat} {I J : Nat → Nat → Int32} {L : Nat → Nat → Int64} {r : Int32} (hb : zbl b) (hc : zCall d mX7_readInto [.ref 53, .ref (11 - b)] (zh b I L) (some (.int r), zh b J L)) : (¬ 0 ≤ r → zCall (d + 1) mX11_read [.ref 0] (zh b I L) (some (.int (-10 - J 53 2)), zh b J L)) ∧ (0 ≤ r → zCall (d + 1) mX11_read [.ref 0] (zh b I L) (some (.int r), zh (11 - b) J L)) := by
  have start : ∀ (R : zR), zR0 R → (∀ G : zG, zA G (d + 1) mX11_read 13 [some (.ref 0), some (.int r), none] [.int r] (zh b J L) R) → ∀ G : zG, zA G (d + 1) mX11_read 0 [some (.ref 0), none, none] [] (zh b I L) R := by
    intro R hR K G
    refine zi_aload_n dX11_read_0 rfl rfl ?_
    refine zg_getF (k := 8) (v := .ref 53) dX11_read_1 zc11 rfl (Nat.le_of_ble_eq_true rfl) (Nat.le_of_ble_eq_true rfl) u_252 rfl (rfl) ?_
    refine zi_aload_n dX11_read_4 rfl rfl ?_
    refine zg_getF (k := 1) (v := .ref (11 - b)) dX11_read_5 zc11 rfl (Nat.le_of_ble_eq_true rfl) (Nat.le_of_ble_eq_true rfl) u_245 rfl (rfl) ?_
    refine zi_callV (N := mX7_readInto) (av := [.ref (11 - b)]) (st := []) (R1 := (some (.int r), zh b J L)) dX11_read_8 okX7_readInto u_363 u_364 u_365 zc7 (rfl) (Nat.le_of_ble_eq_true rfl) arX7_readInto rfl (Nat.le_of_ble_eq_true rfl) hc hR ?_
    show zA G (d + 1) mX11_read 11 [some (.ref 0), none, none] [.int r] (zh b J L) R
    refine zi_istore_n dX11_read_11 rfl (Nat.le_of_ble_eq_true rfl) (ls' := [some (.ref 0), some (.int r), none]) rfl ?_
    refine zi_iload_n dX11_read_12 rfl rfl ?_
    exact K G
  refine ⟨fun hr => ?_, fun hr => ?_⟩
  · refine zCall.of okX11_read (Nat.le_of_ble_eq_true rfl) ⟨Nat.le_refl _, Nat.le_refl _⟩ (start _ zR0.w (fun G => ?_))
    refine zi_if_ge (tgt := 27) dX11_read_13 (by decide) (fun c => absurd c hr) (fun _ => ?_)
    refine zi_bipush (v := -10) dX11_read_16 (by decide) ?_
    refine zi_aload_n dX11_read_18 rfl rfl ?_
    refine zg_getF (k := 8) (v := .ref 53) dX11_read_19 zc11 rfl (Nat.le_of_ble_eq_true rfl) (Nat.le_of_ble_eq_true rfl) u_252 rfl (rfl) ?_
    refine zg_getI (k := 2) dX11_read_22 zc7 rfl (Nat.le_of_ble_eq_true rfl) (Nat.le_of_ble_eq_true rfl) u_223 rfl ?_
    refine zi_isub dX11_read_25 ?_
    exact zi_ireturn dX11_read_26 rfl rfl
  · refine zCall.of okX11_read (Nat.le_of_ble_eq_true rfl) ⟨Nat.le_refl _, Nat.le_refl _⟩ (start _ zR0.w (fun G => ?_))
    refine zi_if_ge (tgt := 27) dX11_read_13 (by decide) (fun _ => ?_) (fun c => absurd hr c)
    refine zi_aload_n dX11_read_27 rfl rfl ?_
    refine zg_getF (k := 0) (v := .ref b) dX11_read_28 zc11 rfl (Nat.le_of_ble_eq_true rfl) (Nat.le_of_ble_eq_true rfl) u_244 rfl (rfl) ?_
    refine zi_astore_n dX11_read_31 rfl (Nat.le_of_ble_eq_true rfl) (ls' := [some (.ref 0), some (.int r), some (.ref b)]) rfl ?_
    refine zi_aload_n dX11_read_32 rfl rfl ?_
    refine zi_aload_n dX11_read_33 rfl rfl ?_
    refine zg_getF (k := 1) (v := .ref (11 - b)) dX11_read_34 zc11 rfl (Nat.le_of_ble_eq_true rfl) (Nat.le_of_ble_eq_true rfl) u_245 rfl (rfl) ?_
    refine zi_putF (k := 0) (h := zh b J L) dX11_read_37 zc11 rfl (Nat.le_of_ble_eq_true rfl) (Nat.le_of_ble_eq_true rfl) u_244 (Or.inl rfl) rfl ?_
    refine zi_aload_n dX11_read_40 rfl rfl ?_
    refine zi_aload_n dX11_read_41 rfl rfl ?_
    refine zi_putF (k := 1) dX11_read_42 zc11 rfl (Nat.le_of_ble_eq_true rfl) (Nat.le_of_ble_eq_true rfl) u_245 (Or.inl rfl) rfl ?_
    refine zi_iload_n dX11_read_45 rfl rfl ?_
    show zA G (d + 1) mX11_read 46 _ [.int r] (zS0, J, L, zupF (zupF (zF b) 0 0 (.ref (11 - b))) 0 1 (.ref b)) _
    rw [zF_swap hb]
    exact zi_ireturn dX11_read_46 rfl rfl
