/-! THE READING, and the class's -/
def sI3 (t : Nat × zW) (h1 h2 h3 p : Nat) (f : Nat → Nat → Nat → zW) : Sum Nat (zW × Nat) :=
  match sN t 0 h1 p with
  | none => .inl (tq t p)
  | some a => match sN t 0 h2 (te t p) with
    | none => .inl (tq t (te t p))
    | some b => match sN t 0 h3 (te t (te t p)) with
      | none => .inl (tq t (te t (te t p)))
      | some c => if tk t (te t (te t (te t p))) = 3 then .inr (f a b c, te t (te t (te t (te t p)))) else .inl (tq t (te t (te t (te t p))))
def sHill (t : Nat × zW) : Sum Nat (zW × Nat) :=
  if isW t 0 0 = true then
    match sN t 1 9 (te t 0) with
    | none => .inl (tq t (te t 0))
    | some h => match sN t 1 7 (te t (te t 0)) with
      | none => .inl (tq t (te t (te t 0)))
      | some w => if tk t (te t (te t (te t 0))) = 3 then .inr (wcl h w, te t (te t (te t (te t 0)))) else .inl (tq t (te t (te t (te t 0))))
  else .inl (tq t 0)
def sIt (t : Nat × zW) (w : zW) (p : Nat) : Sum Nat (zW × Nat) :=
  if isW t 1 p = true then sI3 t (w 0) (w 1) 10 (te t p) (fun r l v => wset w (5 + (6 * r + l)) v)
  else if isW t 2 p = true then sI3 t (w 0) (w 1) 4 (te t p) (fun r l v => wset w (53 + (6 * r + l)) v)
  else if isW t 3 p = true then (if w 2 < 6 then sI3 t 5 (w 1) 100 (te t p) (fun k l s => wrun w k l s) else .inl (tq t p))
  else if isW t 4 p = true then sI3 t (w 2) (w 0) 3 (te t p) (fun i r s => wset w (119 + 8 * i + r) s)
  else .inl (tq t p)
def zfr (I0 J : Nat → Nat → Int32) (o : Nat) : Prop := (∀ i, i ≠ 53 → (i < o ∨ o + 8 < i) → J i = I0 i) ∧ J 53 1 = I0 53 1
theorem z53.fr {I J : Nat → Nat → Int32} {o : Nat} (h : z53 I J) : zfr I J o := ⟨fun i hi _ => h.1 i hi, h.2⟩
theorem zfr.trans {I J K : Nat → Nat → Int32} {o : Nat} (h : zfr I J o) (h' : zfr J K o) : zfr I K o := ⟨fun i hi h2 => (h'.1 i hi h2).trans (h.1 i hi h2), h'.2.trans h.2⟩
theorem zfr.tc {I J : Nat → Nat → Int32} {o : Nat} {t : Nat × zW} (h : zfr I J o) (ho : o + 8 < 53) (ht : zTc I t) : zTc J t := ⟨h.2.trans ht.1, fun k hk => by rw [h.1 54 (by decide) (by omega)]; exact ht.2 k hk⟩
theorem z53.hr {I J : Nat → Nat → Int32} {o : Nat} {w : zW} (h : z53 I J) (ho : o + 8 < 53) (hh : hr (zat I o) w) : hr (zat J o) w := hh.congr (fun k hk => h.1 (o + k) (by omega))
def zoc (I0 J : Nat → Nat → Int32) (o : Nat) (s : Sum Nat (zW × Nat)) (ok : Bool) : Prop := zfr I0 J o ∧ (match s with | .inl q => ok = false ∧ J 53 2 = nI q | .inr x => ok = true ∧ hr (zat J o) x.1 ∧ J 53 3 = nI x.2)
section PC
variable {d b : Nat} {I : Nat → Nat → Int32} {L : Nat → Nat → Int64}
theorem kX7_readCell {o a base hx p : Nat} {t : Nat × zW} {w : zW} (ho : zhl o) (hab : (a = o + 1 ∧ base = 5 ∧ hx = 10) ∨ (a = o + 2 ∧ base = 53 ∧ hx = 4)) (hw : winv w) (htw : zTw t) (h : hr (zat I o) w) (ht : zTc I t) (hp : p ≤ t.1) (h3 : I 53 3 = nI p) : ∃ J ok, zoc I J o (sI3 t (w 0) (w 1) hx p (fun r l v => wset w (base + (6 * r + l)) v)) ok ∧ zCall (d + 3) mX7_readCell [.ref 53, .ref o, .ref a, .int (nI (hx - 1))] (zh b I L) (some (.int (zB ok)), zh b J L) := by
  obtain ⟨⟨w0, w1, w2, w3, w4⟩, -⟩ := id hw
  have ho53 : o + 8 < 53 := by rcases ho with rfl | rfl | rfl | rfl <;> omega
  have ha : zsh a = (100, 48) := by
    rcases hab with ⟨rfl, -⟩ | ⟨rfl, -⟩
    · exact ho.s1
    · exact ho.s2
  have la : a < 74 := by omega
  have ao : a = o + 1 ∨ a = o + 2 := by omega
  obtain ⟨J1, f1, q1, e1, c1⟩ := kX7_nextNumber (d := d) (b := b) (L := L) (lo := 0) (hx := w 0) (x2 := I o 0 - 1) htw ht hp h3 (by decide) (by rw [show I o 0 = nI (w 0) from h.1.1]; exact nIm_toInt (by omega))
  have p1 := te_le hp
  unfold sI3
  cases s1 : sN t 0 (w 0) p with
  | none =>
    rw [s1] at c1
    exact ⟨J1, false, ⟨f1.fr, rfl, q1⟩, zCall.of okX7_readCell (Nat.le_of_ble_eq_true rfl) ⟨Nat.le_refl _, Nat.le_refl _⟩ (fun G => tX7_readCell_0 ho ha la zR0.w ⟨-1, J1, c1, fun q => absurd rfl q, fun _ => ⟨fun q => absurd rfl q, fun _ => ⟨fun q => absurd rfl q, fun _ => rfl⟩⟩⟩)⟩
  | some r =>
    rw [s1] at c1
    have S1 := sN_some s1
    have h1 := f1.hr ho53 h
    obtain ⟨J2, f2, q2, e2, c2⟩ := kX7_nextNumber (d := d) (b := b) (L := L) (lo := 0) (hx := w 1) (x2 := J1 o 1 - 1) htw (f1.tc ht) p1.2.1 e1 (by decide) (by rw [show J1 o 1 = nI (w 1) from h1.1.2.1]; exact nIm_toInt (by omega))
    have p2 := te_le p1.2.1
    cases s2 : sN t 0 (w 1) (te t p) with
    | none =>
      rw [s2] at c2
      exact ⟨J2, false, ⟨(f1.trans f2).fr, rfl, q2⟩, zCall.of okX7_readCell (Nat.le_of_ble_eq_true rfl) ⟨Nat.le_refl _, Nat.le_refl _⟩ (fun G => tX7_readCell_0 ho ha la zR0.w ⟨nI r, J1, c1, fun _ => ⟨-1, J2, c2, fun q => absurd rfl q, fun _ => ⟨fun q => absurd rfl q, fun _ => rfl⟩⟩, fun q => absurd q (znI_ne s1)⟩)⟩
    | some l =>
      rw [s2] at c2
      have S2 := sN_some s2
      obtain ⟨J3, f3, q3, e3, c3⟩ := kX7_nextNumber (d := d) (b := b) (L := L) (lo := 0) (hx := hx) (x2 := nI (hx - 1)) htw ((f1.trans f2).tc ht) p2.2.1 e2 (by decide) (by rw [nI_toInt (by omega)]; omega)
      have p3 := te_le p2.2.1
      have f13 := f1.trans (f2.trans f3)
      cases s3 : sN t 0 hx (te t (te t p)) with
      | none =>
        rw [s3] at c3
        exact ⟨J3, false, ⟨f13.fr, rfl, q3⟩, zCall.of okX7_readCell (Nat.le_of_ble_eq_true rfl) ⟨Nat.le_refl _, Nat.le_refl _⟩ (fun G => tX7_readCell_0 ho ha la zR0.w ⟨nI r, J1, c1, fun _ => ⟨nI l, J2, c2, fun _ => ⟨-1, J3, c3, fun q => absurd rfl q, fun _ => rfl⟩, fun q => absurd q (znI_ne s2)⟩, fun q => absurd q (znI_ne s1)⟩)⟩
      | some v =>
        rw [s3] at c3
        have S3 := sN_some s3
        have hcell : 6 * r + l < 48 := by omega
        have fu : zfr J3 (zup J3 a (6 * r + l) (nI v)) o := ⟨fun i hi h2 => zup_ne (by omega), by rw [zup_ne (by omega)]⟩
        have e3' : zup J3 a (6 * r + l) (nI v) 53 3 = nI (te t (te t (te t p))) := by rw [zup_ne (by omega)]; exact e3
        obtain ⟨J5, f5, q5, e5, c5⟩ := kX7_nextIsSemicolon (d := d) (b := b) (L := L) (I := zup J3 a (6 * r + l) (nI v)) htw (fu.tc ho53 (f13.tc ht)) p3.2.1 e3'
        have tree : ∀ ok : Bool, decide (tk t (te t (te t (te t p))) = 3) = ok → zCall (d + 3) mX7_readCell [.ref 53, .ref o, .ref a, .int (nI (hx - 1))] (zh b I L) (some (.int (zB ok)), zh b J5 L) := fun ok hok => by
          rw [hok] at c5
          refine zCall.of okX7_readCell (Nat.le_of_ble_eq_true rfl) ⟨Nat.le_refl _, Nat.le_refl _⟩ (fun G => tX7_readCell_0 ho ha la zR0.w ⟨nI r, J1, c1, fun _ => ⟨nI l, J2, c2, fun _ => ⟨nI v, J3, c3, fun _ => ?_, fun q => absurd q (znI_ne s3)⟩, fun q => absurd q (znI_ne s2)⟩, fun q => absurd q (znI_ne s1)⟩)
          rw [zcellC, zx_nI (by omega)]
          exact ⟨zv_in hcell (by decide), ok, J5, c5, rfl⟩
        have fr5 : zfr I J5 o := f13.fr.trans (fu.trans f5.fr)
        by_cases k3 : tk t (te t (te t (te t p))) = 3
        · refine ⟨J5, true, ?_, tree true (decide_eq_true k3)⟩
          show zoc I J5 o (if tk t (te t (te t (te t p))) = 3 then .inr (wset w (base + (6 * r + l)) v, te t (te t (te t (te t p)))) else .inl (tq t (te t (te t (te t p))))) true
          rw [if_pos k3]
          refine ⟨fr5, rfl, f5.hr ho53 ?_, e5⟩
          have hh := f13.hr ho53 h
          rcases hab with ⟨rfl, rfl, -⟩ | ⟨rfl, rfl, -⟩
          · exact hr_slope hh hcell (fun k hk hk1 => by show zup J3 (o + 1) (6 * r + l) (nI v) (o + k) = J3 (o + k); rw [zup_ne (by omega)]) (by show zup J3 (o + 1) (6 * r + l) (nI v) (o + 1) = _; rw [zup_self]; rfl)
          · exact hr_ground hh hcell (fun k hk hk1 => by show zup J3 (o + 2) (6 * r + l) (nI v) (o + k) = J3 (o + k); rw [zup_ne (by omega)]) (by show zup J3 (o + 2) (6 * r + l) (nI v) (o + 2) = _; rw [zup_self]; rfl)
        · refine ⟨J5, false, ?_, tree false (decide_eq_false k3)⟩
          show zoc I J5 o (if tk t (te t (te t (te t p))) = 3 then .inr (wset w (base + (6 * r + l)) v, te t (te t (te t (te t p)))) else .inl (tq t (te t (te t (te t p))))) false
          rw [if_neg k3]
          exact ⟨fr5, rfl, q5⟩
theorem kX7_readLine {o p : Nat} {t : Nat × zW} {w : zW} (ho : zhl o) (hw : winv w) (htw : zTw t) (h : hr (zat I o) w) (ht : zTc I t) (hp : p ≤ t.1) (h3 : I 53 3 = nI p) : ∃ J ok, zoc I J o (sI3 t (w 2) (w 0) 3 p (fun i r s => wset w (119 + 8 * i + r) s)) ok ∧ zCall (d + 3) mX7_readLine [.ref 53, .ref o] (zh b I L) (some (.int (zB ok)), zh b J L) := by
  obtain ⟨⟨w0, w1, w2, w3, w4⟩, -⟩ := id hw
  have ho53 : o + 8 < 53 := by rcases ho with rfl | rfl | rfl | rfl <;> omega
  obtain ⟨J1, f1, q1, e1, c1⟩ := kX7_nextNumber (d := d) (b := b) (L := L) (lo := 0) (hx := w 2) (x2 := I o 2 - 1) htw ht hp h3 (by decide) (by rw [show I o 2 = nI (w 2) from h.1.2.2.1]; exact nIm_toInt (by omega))
  have p1 := te_le hp
  unfold sI3
  cases s1 : sN t 0 (w 2) p with
  | none =>
    rw [s1] at c1
    exact ⟨J1, false, ⟨f1.fr, rfl, q1⟩, zCall.of okX7_readLine (Nat.le_of_ble_eq_true rfl) ⟨Nat.le_refl _, Nat.le_refl _⟩ (fun G => tX7_readLine_0 ho zR0.w ⟨-1, J1, c1, fun q => absurd rfl q, fun _ => ⟨fun q => absurd rfl q, fun _ => ⟨fun q => absurd rfl q, fun _ => rfl⟩⟩⟩)⟩
  | some r =>
    rw [s1] at c1
    have S1 := sN_some s1
    have h1 := f1.hr ho53 h
    obtain ⟨J2, f2, q2, e2, c2⟩ := kX7_nextNumber (d := d) (b := b) (L := L) (lo := 0) (hx := w 0) (x2 := J1 o 0 - 1) htw (f1.tc ht) p1.2.1 e1 (by decide) (by rw [show J1 o 0 = nI (w 0) from h1.1.1]; exact nIm_toInt (by omega))
    have p2 := te_le p1.2.1
    cases s2 : sN t 0 (w 0) (te t p) with
    | none =>
      rw [s2] at c2
      exact ⟨J2, false, ⟨(f1.trans f2).fr, rfl, q2⟩, zCall.of okX7_readLine (Nat.le_of_ble_eq_true rfl) ⟨Nat.le_refl _, Nat.le_refl _⟩ (fun G => tX7_readLine_0 ho zR0.w ⟨nI r, J1, c1, fun _ => ⟨-1, J2, c2, fun q => absurd rfl q, fun _ => ⟨fun q => absurd rfl q, fun _ => rfl⟩⟩, fun q => absurd q (znI_ne s1)⟩)⟩
    | some l =>
      rw [s2] at c2
      have S2 := sN_some s2
      obtain ⟨J3, f3, q3, e3, c3⟩ := kX7_nextNumber (d := d) (b := b) (L := L) (lo := 0) (hx := 3) (x2 := 2) htw ((f1.trans f2).tc ht) p2.2.1 e2 (by decide) (by decide)
      have p3 := te_le p2.2.1
      have f13 := f1.trans (f2.trans f3)
      cases s3 : sN t 0 3 (te t (te t p)) with
      | none =>
        rw [s3] at c3
        exact ⟨J3, false, ⟨f13.fr, rfl, q3⟩, zCall.of okX7_readLine (Nat.le_of_ble_eq_true rfl) ⟨Nat.le_refl _, Nat.le_refl _⟩ (fun G => tX7_readLine_0 ho zR0.w ⟨nI r, J1, c1, fun _ => ⟨nI l, J2, c2, fun _ => ⟨-1, J3, c3, fun q => absurd rfl q, fun _ => rfl⟩, fun q => absurd q (znI_ne s2)⟩, fun q => absurd q (znI_ne s1)⟩)⟩
      | some v =>
        rw [s3] at c3
        have S3 := sN_some s3
        have hcell : 8 * r + l < 48 := by omega
        have fu : zfr J3 (zup J3 (o + 6) (8 * r + l) (nI v)) o := ⟨fun i hi h2 => zup_ne (by omega), by rw [zup_ne (by omega)]⟩
        have e3' : zup J3 (o + 6) (8 * r + l) (nI v) 53 3 = nI (te t (te t (te t p))) := by rw [zup_ne (by omega)]; exact e3
        obtain ⟨J5, f5, q5, e5, c5⟩ := kX7_nextIsSemicolon (d := d) (b := b) (L := L) (I := zup J3 (o + 6) (8 * r + l) (nI v)) htw (fu.tc ho53 (f13.tc ht)) p3.2.1 e3'
        have tree : ∀ ok : Bool, decide (tk t (te t (te t (te t p))) = 3) = ok → zCall (d + 3) mX7_readLine [.ref 53, .ref o] (zh b I L) (some (.int (zB ok)), zh b J5 L) := fun ok hok => by
          rw [hok] at c5
          refine zCall.of okX7_readLine (Nat.le_of_ble_eq_true rfl) ⟨Nat.le_refl _, Nat.le_refl _⟩ (fun G => tX7_readLine_0 ho zR0.w ⟨nI r, J1, c1, fun _ => ⟨nI l, J2, c2, fun _ => ⟨nI v, J3, c3, fun _ => ?_, fun q => absurd q (znI_ne s3)⟩, fun q => absurd q (znI_ne s2)⟩, fun q => absurd q (znI_ne s1)⟩)
          rw [zlineC, zx_nI (by omega)]
          exact ⟨zv_in hcell (by decide), ok, J5, c5, rfl⟩
        have fr5 : zfr I J5 o := f13.fr.trans (fu.trans f5.fr)
        by_cases k3 : tk t (te t (te t (te t p))) = 3
        · refine ⟨J5, true, ?_, tree true (decide_eq_true k3)⟩
          show zoc I J5 o (if tk t (te t (te t (te t p))) = 3 then .inr (wset w (119 + 8 * r + l) v, te t (te t (te t (te t p)))) else .inl (tq t (te t (te t (te t p))))) true
          rw [if_pos k3]
          refine ⟨fr5, rfl, f5.hr ho53 ?_, e5⟩
          exact hr_line (f13.hr ho53 h) S1.2.2.2.2.1 w2 (by omega) (fun k hk hk1 => by show zup J3 (o + 6) (8 * r + l) (nI v) (o + k) = J3 (o + k); rw [zup_ne (by omega)]) (by show zup J3 (o + 6) (8 * r + l) (nI v) (o + 6) = _; rw [zup_self]; rfl)
        · refine ⟨J5, false, ?_, tree false (decide_eq_false k3)⟩
          show zoc I J5 o (if tk t (te t (te t (te t p))) = 3 then .inr (wset w (119 + 8 * r + l) v, te t (te t (te t (te t p)))) else .inl (tq t (te t (te t (te t p))))) false
          rw [if_neg k3]
          exact ⟨fr5, rfl, q5⟩
theorem kX7_readRunner {o p : Nat} {t : Nat × zW} {w : zW} (ho : zhl o) (hw : winv w) (htw : zTw t) (h : hr (zat I o) w) (ht : zTc I t) (hp : p ≤ t.1) (h3 : I 53 3 = nI p) (h6 : w 2 < 6) : ∃ J ok, zoc I J o (sI3 t 5 (w 1) 100 p (fun k l s => wrun w k l s)) ok ∧ zCall (d + 3) mX7_readRunner [.ref 53, .ref o] (zh b I L) (some (.int (zB ok)), zh b J L) := by
  obtain ⟨⟨w0, w1, w2, w3, w4⟩, -⟩ := id hw
  have ho53 : o + 8 < 53 := by rcases ho with rfl | rfl | rfl | rfl <;> omega
  have lt6 : I o 2 < 6 := by rw [show I o 2 = nI (w 2) from h.1.2.2.1]; exact nI_lt (b := 6) h6 (by decide)
  obtain ⟨J1, f1, q1, e1, c1⟩ := kX7_nextNumber (d := d) (b := b) (L := L) (lo := 0) (hx := 5) (x2 := 4) htw ht hp h3 (by decide) (by decide)
  have p1 := te_le hp
  unfold sI3
  cases s1 : sN t 0 5 p with
  | none =>
    rw [s1] at c1
    exact ⟨J1, false, ⟨f1.fr, rfl, q1⟩, zCall.of okX7_readRunner (Nat.le_of_ble_eq_true rfl) ⟨Nat.le_refl _, Nat.le_refl _⟩ (fun G => tX7_readRunner_0 ho zR0.w ⟨fun _ => ⟨-1, J1, c1, fun q => absurd rfl q, fun _ => ⟨fun q => absurd rfl q, fun _ => ⟨fun q => absurd rfl q, fun _ => rfl⟩⟩⟩, fun q => absurd lt6 q⟩)⟩
  | some r =>
    rw [s1] at c1
    have S1 := sN_some s1
    have h1 := f1.hr ho53 h
    obtain ⟨J2, f2, q2, e2, c2⟩ := kX7_nextNumber (d := d) (b := b) (L := L) (lo := 0) (hx := w 1) (x2 := J1 o 1 - 1) htw (f1.tc ht) p1.2.1 e1 (by decide) (by rw [show J1 o 1 = nI (w 1) from h1.1.2.1]; exact nIm_toInt (by omega))
    have p2 := te_le p1.2.1
    cases s2 : sN t 0 (w 1) (te t p) with
    | none =>
      rw [s2] at c2
      exact ⟨J2, false, ⟨(f1.trans f2).fr, rfl, q2⟩, zCall.of okX7_readRunner (Nat.le_of_ble_eq_true rfl) ⟨Nat.le_refl _, Nat.le_refl _⟩ (fun G => tX7_readRunner_0 ho zR0.w ⟨fun _ => ⟨nI r, J1, c1, fun _ => ⟨-1, J2, c2, fun q => absurd rfl q, fun _ => ⟨fun q => absurd rfl q, fun _ => rfl⟩⟩, fun q => absurd q (znI_ne s1)⟩, fun q => absurd lt6 q⟩)⟩
    | some l =>
      rw [s2] at c2
      have S2 := sN_some s2
      obtain ⟨J3, f3, q3, e3, c3⟩ := kX7_nextNumber (d := d) (b := b) (L := L) (lo := 0) (hx := 100) (x2 := 99) htw ((f1.trans f2).tc ht) p2.2.1 e2 (by decide) (by decide)
      have p3 := te_le p2.2.1
      have f13 := f1.trans (f2.trans f3)
      cases s3 : sN t 0 100 (te t (te t p)) with
      | none =>
        rw [s3] at c3
        exact ⟨J3, false, ⟨f13.fr, rfl, q3⟩, zCall.of okX7_readRunner (Nat.le_of_ble_eq_true rfl) ⟨Nat.le_refl _, Nat.le_refl _⟩ (fun G => tX7_readRunner_0 ho zR0.w ⟨fun _ => ⟨nI r, J1, c1, fun _ => ⟨nI l, J2, c2, fun _ => ⟨-1, J3, c3, fun q => absurd rfl q, fun _ => rfl⟩, fun q => absurd q (znI_ne s2)⟩, fun q => absurd q (znI_ne s1)⟩, fun q => absurd lt6 q⟩)⟩
      | some v =>
        rw [s3] at c3
        have S3 := sN_some s3
        have hh := f13.hr ho53 h
        have ka := kX4_addRunner (d := d + 1) (b := b) (L := L) ho (show J3 o 2 = nI (w 2) from hh.1.2.2.1) h6 (nI r) (nI l) (nI v)
        have ne : ∀ i, (i < o ∨ o + 8 < i) → zup (zstr (zup (zup (zup J3 (o + 3) (w 2) (nI r)) (o + 4) (w 2) (nI l)) (o + 5) (w 2) (nI v)) (o + 6) (8 * w 2) 8) o 2 (nI (w 2 + 1)) i = J3 i := fun i hi => by
          rw [zup_ne (by omega), zstr_ne (by omega), zup_ne (by omega), zup_ne (by omega), zup_ne (by omega)]
        have fu : zfr J3 (zup (zstr (zup (zup (zup J3 (o + 3) (w 2) (nI r)) (o + 4) (w 2) (nI l)) (o + 5) (w 2) (nI v)) (o + 6) (8 * w 2) 8) o 2 (nI (w 2 + 1))) o := ⟨fun i hi h2 => ne i h2, by rw [ne 53 (by omega)]⟩
        obtain ⟨J5, f5, q5, e5, c5⟩ := kX7_nextIsSemicolon (d := d) (b := b) (L := L) (I := zup (zstr (zup (zup (zup J3 (o + 3) (w 2) (nI r)) (o + 4) (w 2) (nI l)) (o + 5) (w 2) (nI v)) (o + 6) (8 * w 2) 8) o 2 (nI (w 2 + 1))) htw (fu.tc ho53 (f13.tc ht)) p3.2.1 (by rw [ne 53 (by omega)]; exact e3)
        have tree : ∀ ok : Bool, decide (tk t (te t (te t (te t p))) = 3) = ok → zCall (d + 3) mX7_readRunner [.ref 53, .ref o] (zh b I L) (some (.int (zB ok)), zh b J5 L) := fun ok hok => by
          rw [hok] at c5
          exact zCall.of okX7_readRunner (Nat.le_of_ble_eq_true rfl) ⟨Nat.le_refl _, Nat.le_refl _⟩ (fun G => tX7_readRunner_0 ho zR0.w ⟨fun _ => ⟨nI r, J1, c1, fun _ => ⟨nI l, J2, c2, fun _ => ⟨nI v, J3, c3, fun _ => ⟨_, ka, ok, J5, c5, rfl⟩, fun q => absurd q (znI_ne s3)⟩, fun q => absurd q (znI_ne s2)⟩, fun q => absurd q (znI_ne s1)⟩, fun q => absurd lt6 q⟩)
        have fr5 : zfr I J5 o := f13.fr.trans (fu.trans f5.fr)
        by_cases k3 : tk t (te t (te t (te t p))) = 3
        · refine ⟨J5, true, ?_, tree true (decide_eq_true k3)⟩
          show zoc I J5 o (if tk t (te t (te t (te t p))) = 3 then .inr (wrun w r l v, te t (te t (te t (te t p)))) else .inl (tq t (te t (te t (te t p))))) true
          rw [if_pos k3]
          exact ⟨fr5, rfl, f5.hr ho53 (hr_run hh h6 w3), e5⟩
        · refine ⟨J5, false, ?_, tree false (decide_eq_false k3)⟩
          show zoc I J5 o (if tk t (te t (te t (te t p))) = 3 then .inr (wrun w r l v, te t (te t (te t (te t p)))) else .inl (tq t (te t (te t (te t p))))) false
          rw [if_neg k3]
          exact ⟨fr5, rfl, q5⟩
theorem kX7_readHill {o : Nat} {t : Nat × zW} (ho : zhl o) (htw : zTw t) (ht : zTc I t) (h2 : I 53 2 = nI (tq t 0)) (h3 : I 53 3 = nI (te t 0)) (h4 : I 53 4 = nI (tk t 0)) : ∃ J ok, zoc I J o (sHill t) ok ∧ zCall (d + 6) mX7_readHill [.ref 53, .ref o] (zh b I L) (some (.int (zB ok)), zh b J L) := by
  have ho53 : o + 8 < 53 := by rcases ho with rfl | rfl | rfl | rfl <;> omega
  have p0 := te_le (t := t) (Nat.zero_le t.1)
  have hk4 := tkq_le t (tq t 0)
  have ki := kX7_isWord (d := d + 1) (b := b) (L := L) (t := t.2) (k := 0) (by decide) h4 h2 h3 (by show tkq t (tq t 0) < 1000; omega) p0.2.2.1 p0.2.1 htw.1 ht.2
  have ki : zCall (d + 1 + 4) mX7_isWord [.ref 53, .ref 1000] (zh b I L) (some (.int (zB (isW t 0 0))), zh b I L) := ki
  unfold sHill
  by_cases iw : isW t 0 0 = true
  · rw [if_pos iw]
    rw [iw] at ki
    obtain ⟨J1, f1, q1, e1, c1⟩ := kX7_nextNumber (d := d + 3) (b := b) (L := L) (lo := 1) (hx := 9) (x2 := 8) htw ht p0.2.1 h3 (by decide) (by decide)
    have p1 := te_le p0.2.1
    cases s1 : sN t 1 9 (te t 0) with
    | none =>
      rw [s1] at c1
      exact ⟨J1, false, ⟨f1.fr, rfl, q1⟩, zCall.of okX7_readHill (Nat.le_of_ble_eq_true rfl) ⟨Nat.le_refl _, Nat.le_refl _⟩ (fun G => tX7_readHill_0 ho zR0.w ⟨true, I, ki, fun _ => ⟨-1, J1, c1, fun q => absurd rfl q, fun _ => ⟨fun q => absurd rfl q, fun _ => rfl⟩⟩, fun q => absurd q (by decide)⟩)⟩
    | some hh =>
      rw [s1] at c1
      obtain ⟨J2, f2, q2, e2, c2⟩ := kX7_nextNumber (d := d + 3) (b := b) (L := L) (lo := 1) (hx := 7) (x2 := 6) htw (f1.tc ht) p1.2.1 e1 (by decide) (by decide)
      have p2 := te_le p1.2.1
      cases s2 : sN t 1 7 (te t (te t 0)) with
      | none =>
        rw [s2] at c2
        exact ⟨J2, false, ⟨(f1.trans f2).fr, rfl, q2⟩, zCall.of okX7_readHill (Nat.le_of_ble_eq_true rfl) ⟨Nat.le_refl _, Nat.le_refl _⟩ (fun G => tX7_readHill_0 ho zR0.w ⟨true, I, ki, fun _ => ⟨nI hh, J1, c1, fun _ => ⟨-1, J2, c2, fun q => absurd rfl q, fun _ => rfl⟩, fun q => absurd q (znI_ne s1)⟩, fun q => absurd q (by decide)⟩)⟩
      | some ww =>
        rw [s2] at c2
        have f12 := f1.trans f2
        have fu : zfr J2 (zlay J2 o (nI hh) (nI ww)) o := ⟨fun i hi h2 => zlay_ne h2, by rw [zlay_ne (by omega)]⟩
        obtain ⟨J5, f5, q5, e5, c5⟩ := kX7_nextIsSemicolon (d := d + 3) (b := b) (L := L) (I := zlay J2 o (nI hh) (nI ww)) htw (fu.tc ho53 (f12.tc ht)) p2.2.1 (by rw [zlay_ne (by omega)]; exact e2)
        have tree : ∀ ok : Bool, decide (tk t (te t (te t (te t 0))) = 3) = ok → zCall (d + 6) mX7_readHill [.ref 53, .ref o] (zh b I L) (some (.int (zB ok)), zh b J5 L) := fun ok hok => by
          rw [hok] at c5
          exact zCall.of okX7_readHill (Nat.le_of_ble_eq_true rfl) ⟨Nat.le_refl _, Nat.le_refl _⟩ (fun G => tX7_readHill_0 ho zR0.w ⟨true, I, ki, fun _ => ⟨nI hh, J1, c1, fun _ => ⟨nI ww, J2, c2, fun _ => ⟨_, kX4_layOut (d := d + 4) ho _ _, ok, J5, c5, rfl⟩, fun q => absurd q (znI_ne s2)⟩, fun q => absurd q (znI_ne s1)⟩, fun q => absurd q (by decide)⟩)
        have fr5 : zfr I J5 o := f12.fr.trans (fu.trans f5.fr)
        by_cases k3 : tk t (te t (te t (te t 0))) = 3
        · refine ⟨J5, true, ?_, tree true (decide_eq_true k3)⟩
          show zoc I J5 o (if tk t (te t (te t (te t 0))) = 3 then .inr (wcl hh ww, te t (te t (te t (te t 0)))) else .inl (tq t (te t (te t (te t 0))))) true
          rw [if_pos k3]
          exact ⟨fr5, rfl, f5.hr ho53 hr_lay, e5⟩
        · refine ⟨J5, false, ?_, tree false (decide_eq_false k3)⟩
          show zoc I J5 o (if tk t (te t (te t (te t 0))) = 3 then .inr (wcl hh ww, te t (te t (te t (te t 0)))) else .inl (tq t (te t (te t (te t 0))))) false
          rw [if_neg k3]
          exact ⟨fr5, rfl, q5⟩
  · have iw := Bool.eq_false_iff.mpr iw
    rw [iw] at ki
    rw [iw, if_neg (by decide)]
    exact ⟨I, false, ⟨z53.rf.fr, rfl, h2⟩, zCall.of okX7_readHill (Nat.le_of_ble_eq_true rfl) ⟨Nat.le_refl _, Nat.le_refl _⟩ (fun G => tX7_readHill_0 ho zR0.w ⟨false, I, ki, fun q => absurd q (by decide), fun _ => rfl⟩)⟩
theorem kX7_readItem {o p : Nat} {t : Nat × zW} {w : zW} (ho : zhl o) (hw : winv w) (htw : zTw t) (h : hr (zat I o) w) (ht : zTc I t) (hp : p ≤ t.1) (h2 : I 53 2 = nI (tq t p)) (h3 : I 53 3 = nI (te t p)) (h4 : I 53 4 = nI (tk t p)) : ∃ J ok, zoc I J o (sIt t w p) ok ∧ zCall (d + 6) mX7_readItem [.ref 53, .ref o] (zh b I L) (some (.int (zB ok)), zh b J L) := by
  have p0 := te_le hp
  have w2 := hw.1.2.2.1
  have hk4 := tkq_le t (tq t p)
  have ki : ∀ k, k < 5 → zCall (d + 1 + 4) mX7_isWord [.ref 53, .ref (1000 + k)] (zh b I L) (some (.int (zB (isW t k p))), zh b I L) := fun k hk => kX7_isWord (d := d + 1) (b := b) (L := L) (t := t.2) (k := k) hk h4 h2 h3 (by show tkq t (tq t p) < 1000; omega) p0.2.2.1 p0.2.1 htw.1 ht.2
  have k1 := ki 1 (by decide)
  have k2 := ki 2 (by decide)
  have k3 := ki 3 (by decide)
  have k4 := ki 4 (by decide)
  unfold sIt
  by_cases i1 : isW t 1 p = true
  · rw [if_pos i1]
    rw [i1] at k1
    obtain ⟨J, ok, g1, g2⟩ := kX7_readCell (d := d + 2) (b := b) (L := L) ho (Or.inl ⟨rfl, rfl, rfl⟩) hw htw h ht p0.2.1 h3
    exact ⟨J, ok, g1, zCall.of okX7_readItem (Nat.le_of_ble_eq_true rfl) ⟨Nat.le_refl _, Nat.le_refl _⟩ (fun G => tX7_readItem_0 ho zR0.w ⟨true, I, k1, fun q => absurd q (by decide), fun _ => ⟨ok, J, g2, rfl⟩⟩)⟩
  · have i1 := Bool.eq_false_iff.mpr i1
    rw [i1] at k1
    rw [i1, if_neg (by decide)]
    by_cases i2 : isW t 2 p = true
    · rw [if_pos i2]
      rw [i2] at k2
      obtain ⟨J, ok, g1, g2⟩ := kX7_readCell (d := d + 2) (b := b) (L := L) ho (Or.inr ⟨rfl, rfl, rfl⟩) hw htw h ht p0.2.1 h3
      exact ⟨J, ok, g1, zCall.of okX7_readItem (Nat.le_of_ble_eq_true rfl) ⟨Nat.le_refl _, Nat.le_refl _⟩ (fun G => tX7_readItem_0 ho zR0.w ⟨false, I, k1, fun _ => ⟨true, I, k2, fun q => absurd q (by decide), fun _ => ⟨ok, J, g2, rfl⟩⟩, fun q => absurd q (by decide)⟩)⟩
    · have i2 := Bool.eq_false_iff.mpr i2
      rw [i2] at k2
      rw [i2, if_neg (by decide)]
      by_cases i3 : isW t 3 p = true
      · rw [if_pos i3]
        rw [i3] at k3
        by_cases h6 : w 2 < 6
        · rw [if_pos h6]
          obtain ⟨J, ok, g1, g2⟩ := kX7_readRunner (d := d + 2) (b := b) (L := L) ho hw htw h ht p0.2.1 h3 h6
          exact ⟨J, ok, g1, zCall.of okX7_readItem (Nat.le_of_ble_eq_true rfl) ⟨Nat.le_refl _, Nat.le_refl _⟩ (fun G => tX7_readItem_0 ho zR0.w ⟨false, I, k1, fun _ => ⟨false, I, k2, fun _ => ⟨true, I, k3, fun q => absurd q (by decide), fun _ => ⟨ok, J, g2, rfl⟩⟩, fun q => absurd q (by decide)⟩, fun q => absurd q (by decide)⟩)⟩
        · rw [if_neg h6]
          have nlt : ¬ I o 2 < 6 := by rw [show I o 2 = nI (w 2) from h.1.2.2.1]; exact fun z => absurd ((nI_ltI (b := 6) (by omega) (by decide)).mp z) h6
          have kr : zCall (d + 2 + 3) mX7_readRunner [.ref 53, .ref o] (zh b I L) (some (.int (zB false)), zh b I L) := zCall.of okX7_readRunner (Nat.le_of_ble_eq_true rfl) ⟨Nat.le_refl _, Nat.le_refl _⟩ (fun G => tX7_readRunner_0 ho zR0.w ⟨fun q => absurd q nlt, fun _ => rfl⟩)
          exact ⟨I, false, ⟨z53.rf.fr, rfl, h2⟩, zCall.of okX7_readItem (Nat.le_of_ble_eq_true rfl) ⟨Nat.le_refl _, Nat.le_refl _⟩ (fun G => tX7_readItem_0 ho zR0.w ⟨false, I, k1, fun _ => ⟨false, I, k2, fun _ => ⟨true, I, k3, fun q => absurd q (by decide), fun _ => ⟨false, I, kr, rfl⟩⟩, fun q => absurd q (by decide)⟩, fun q => absurd q (by decide)⟩)⟩
      · have i3 := Bool.eq_false_iff.mpr i3
        rw [i3] at k3
        rw [i3, if_neg (by decide)]
        by_cases i4 : isW t 4 p = true
        · rw [if_pos i4]
          rw [i4] at k4
          obtain ⟨J, ok, g1, g2⟩ := kX7_readLine (d := d + 2) (b := b) (L := L) ho hw htw h ht p0.2.1 h3
          refine ⟨J, ok, g1, zCall.of okX7_readItem (Nat.le_of_ble_eq_true rfl) ⟨Nat.le_refl _, Nat.le_refl _⟩ (fun G => tX7_readItem_0 ho zR0.w ⟨false, I, k1, fun _ => ⟨false, I, k2, fun _ => ⟨false, I, k3, fun _ => ⟨true, I, k4, fun q => absurd q (by decide), fun _ => ⟨ok, J, g2, fun q => by rw [q]; rfl, fun q => by rw [q]; rfl⟩⟩, fun q => absurd q (by decide)⟩, fun q => absurd q (by decide)⟩, fun q => absurd q (by decide)⟩)⟩
        · have i4 := Bool.eq_false_iff.mpr i4
          rw [i4] at k4
          rw [i4, if_neg (by decide)]
          exact ⟨I, false, ⟨z53.rf.fr, rfl, h2⟩, zCall.of okX7_readItem (Nat.le_of_ble_eq_true rfl) ⟨Nat.le_refl _, Nat.le_refl _⟩ (fun G => tX7_readItem_0 ho zR0.w ⟨false, I, k1, fun _ => ⟨false, I, k2, fun _ => ⟨false, I, k3, fun _ => ⟨false, I, k4, fun _ => rfl, fun q => absurd q (by decide)⟩, fun q => absurd q (by decide)⟩, fun q => absurd q (by decide)⟩, fun q => absurd q (by decide)⟩)⟩
end PC
