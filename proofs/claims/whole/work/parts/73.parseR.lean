/-! the reference's reading -/
def zfR (I0 J : Nat → Nat → Int32) : Prop := (∀ i, i ≠ 56 → i ≠ 58 → J i = I0 i) ∧ J 56 5 = I0 56 5
theorem z56.fr {I J : Nat → Nat → Int32} (h : z56 I J) : zfR I J := ⟨fun i hi _ => h.1 i hi, h.2⟩
theorem zfR.trans {I J K : Nat → Nat → Int32} (h : zfR I J) (h' : zfR J K) : zfR I K := ⟨fun i hi h2 => (h'.1 i hi h2).trans (h.1 i hi h2), h'.2.trans h.2⟩
theorem zfR.tr {I J : Nat → Nat → Int32} {t : Nat × zW} (h : zfR I J) (ht : zTr I t) : zTr J t := ⟨h.2.trans ht.1, fun k hk => by rw [h.1 61 (by decide) (by decide)]; exact ht.2 k hk⟩
def zn58 (I : Nat → Nat → Int32) (w : zW) : Prop := ∀ k, k < 463 → I 58 k = nI (w k)
theorem z56.n58 {I J : Nat → Nat → Int32} {w : zW} (h : z56 I J) (hn : zn58 I w) : zn58 J w := fun k hk => by rw [h.1 58 (by decide)]; exact hn k hk
def zor (I0 J : Nat → Nat → Int32) (L0 M : Nat → Nat → Int64) (s : Sum Nat (zW × Nat)) (ok : Bool) : Prop := zfR I0 J ∧ z56L L0 M ∧ (match s with | .inl q => ok = false ∧ J 56 10 = nI q | .inr x => ok = true ∧ zn58 J x.1 ∧ J 56 9 = nI x.2)
theorem n58_up {I : Nat → Nat → Int32} {w : zW} {k v : Nat} (h : zn58 I w) : zn58 (zup I 58 k (nI v)) (wset w k v) := by
  intro j hj
  rw [zup_self]
  simp only [upd, wset]
  by_cases z : j = k
  · rw [if_pos z, if_pos z]
  · rw [if_neg z, if_neg z]; exact h j hj
section PR
variable {d b : Nat} {I : Nat → Nat → Int32} {L : Nat → Nat → Int64}
theorem kX12_takesCell {a base hx p : Nat} {t : Nat × zW} {w : zW} (hab : (a = 0 ∧ base = 5 ∧ hx = 10) ∨ (a = 1 ∧ base = 53 ∧ hx = 4)) (hw : winv w) (htw : zTw t) (h : zn58 I w) (ht : zTr I t) (hp : p ≤ t.1) (h9 : I 56 9 = nI p) : ∃ J M ok, zor I J L M (sI3 t (w 0) (w 1) hx p (fun r l v => wset w (base + (6 * r + l)) v)) ok ∧ zCall (d + 3) mX12_takesCell [.ref 56, .int (nI a)] (zh b I L) (some (.int (zB ok)), zh b J M) := by
  obtain ⟨⟨w0, w1, w2, w3, w4⟩, -⟩ := id hw
  obtain ⟨J1, M1, f1, g1, q1, e1, c1⟩ := kX12_takes (d := d) (b := b) (L := L) (lo := 0) (hx := w 0) (x2 := I 58 0 - 1) htw ht hp h9 (by decide) (by omega) (by rw [h 0 (by decide)]; exact nIm_toInt (by omega))
  have p1 := te_le hp
  unfold sI3
  cases s1 : sN t 0 (w 0) p with
  | none =>
    rw [s1] at c1
    exact ⟨J1, M1, false, ⟨f1.fr, g1, rfl, q1⟩, zCall.of okX12_takesCell (Nat.le_of_ble_eq_true rfl) ⟨Nat.le_refl _, Nat.le_refl _⟩ (fun G => tX12_takesCell_0 zR0.w ⟨false, J1, M1, c1, fun q => absurd q (by decide), fun _ => rfl⟩)⟩
  | some r =>
    rw [s1] at c1
    have S1 := sN_some s1
    obtain ⟨e1, v1⟩ := e1 r s1
    have h1 := f1.n58 h
    obtain ⟨J2, M2, f2, g2, q2, e2, c2⟩ := kX12_takes (d := d) (b := b) (L := M1) (lo := 0) (hx := w 1) (x2 := J1 58 1 - 1) htw (f1.tr ht) p1.2.1 e1 (by decide) (by omega) (by rw [h1 1 (by decide)]; exact nIm_toInt (by omega))
    have p2 := te_le p1.2.1
    cases s2 : sN t 0 (w 1) (te t p) with
    | none =>
      rw [s2] at c2
      exact ⟨J2, M2, false, ⟨(f1.trans f2).fr, g1.trans g2, rfl, q2⟩, zCall.of okX12_takesCell (Nat.le_of_ble_eq_true rfl) ⟨Nat.le_refl _, Nat.le_refl _⟩ (fun G => tX12_takesCell_0 zR0.w ⟨true, J1, M1, c1, fun _ => ⟨false, J2, M2, c2, fun q => absurd q (by decide), fun _ => rfl⟩, fun q => absurd q (by decide)⟩)⟩
    | some l =>
      rw [s2] at c2
      have S2 := sN_some s2
      obtain ⟨e2, v2⟩ := e2 l s2
      obtain ⟨J3, M3, f3, g3, q3, e3, c3⟩ := kX12_takes (d := d) (b := b) (L := M2) (lo := 0) (hx := hx) (x2 := nI (hx - 1)) htw ((f1.trans f2).tr ht) p2.2.1 e2 (by decide) (by omega) (by rw [nI_toInt (by omega)]; omega)
      have p3 := te_le p2.2.1
      have f13 := f1.trans (f2.trans f3)
      have g13 := g1.trans (g2.trans g3)
      cases s3 : sN t 0 hx (te t (te t p)) with
      | none =>
        rw [s3] at c3
        refine ⟨J3, M3, false, ⟨f13.fr, g13, rfl, q3⟩, zCall.of okX12_takesCell (Nat.le_of_ble_eq_true rfl) ⟨Nat.le_refl _, Nat.le_refl _⟩ (fun G => tX12_takesCell_0 zR0.w ⟨true, J1, M1, c1, fun _ => ⟨true, J2, M2, c2, fun _ => ?_, fun q => absurd q (by decide)⟩, fun q => absurd q (by decide)⟩)⟩
        rcases hab with ⟨rfl, rfl, rfl⟩ | ⟨rfl, rfl, rfl⟩
        · exact ⟨fun q => absurd rfl q, fun _ => ⟨false, J3, M3, c3, fun q => absurd q (by decide), fun _ => rfl⟩⟩
        · exact ⟨fun _ => ⟨false, J3, M3, c3, fun q => absurd q (by decide), fun _ => rfl⟩, fun q => absurd q (by decide)⟩
      | some v =>
        rw [s3] at c3
        have S3 := sN_some s3
        obtain ⟨e3, v3⟩ := e3 v s3
        have hcell : 6 * r + l < 48 := by omega
        have hbc : (if a = 0 then 5 else 53) + (6 * r + l) = base + (6 * r + l) := by
          rcases hab with ⟨rfl, rfl, rfl⟩ | ⟨rfl, rfl, rfl⟩ <;> simp
        have hb463 : base + (6 * r + l) < 463 := by omega
        have fu : zfR J3 (zup J3 58 (base + (6 * r + l)) (nI v)) := ⟨fun i hi h2 => zup_ne h2, by rw [zup_ne (by decide)]⟩
        obtain ⟨J5, M5, f5, g5, q5, e5, c5⟩ := kX12_stops (d := d) (b := b) (L := M3) (I := zup J3 58 (base + (6 * r + l)) (nI v)) htw (fu.tr (f13.tr ht)) p3.2.1 (by rw [zup_ne (by decide)]; exact e3)
        have tree : ∀ ok : Bool, decide (tk t (te t (te t (te t p))) = 3) = ok → zCall (d + 3) mX12_takesCell [.ref 56, .int (nI a)] (zh b I L) (some (.int (zB ok)), zh b J5 M5) := fun ok hok => by
          rw [hok] at c5
          refine zCall.of okX12_takesCell (Nat.le_of_ble_eq_true rfl) ⟨Nat.le_refl _, Nat.le_refl _⟩ (fun G => tX12_takesCell_0 zR0.w ⟨true, J1, M1, c1, fun _ => ⟨true, J2, M2, c2, fun _ => ?_, fun q => absurd q (by decide)⟩, fun q => absurd q (by decide)⟩)
          rw [v1, v2, lN_i, lN_i, zcaR (by omega), hbc, zx_nI (by omega)]
          rcases hab with ⟨rfl, rfl, rfl⟩ | ⟨rfl, rfl, rfl⟩
          · exact ⟨fun q => absurd rfl q, fun _ => ⟨true, J3, M3, c3, fun _ => ⟨zv_in (by omega) (by decide), ok, J5, M5, by rw [v3, lN_i]; exact c5, rfl⟩, fun q => absurd q (by decide)⟩⟩
          · exact ⟨fun _ => ⟨true, J3, M3, c3, fun _ => ⟨zv_in (by omega) (by decide), ok, J5, M5, by rw [v3, lN_i]; exact c5, rfl⟩, fun q => absurd q (by decide)⟩, fun q => absurd q (by decide)⟩
        have fr5 : zfR I J5 := f13.fr.trans (fu.trans f5.fr)
        by_cases k3 : tk t (te t (te t (te t p))) = 3
        · refine ⟨J5, M5, true, ?_, tree true (decide_eq_true k3)⟩
          show zor I J5 L M5 (if tk t (te t (te t (te t p))) = 3 then .inr (wset w (base + (6 * r + l)) v, te t (te t (te t (te t p)))) else .inl (tq t (te t (te t (te t p))))) true
          rw [if_pos k3]
          exact ⟨fr5, g13.trans g5, rfl, f5.n58 (n58_up (f13.n58 h)), e5 k3⟩
        · refine ⟨J5, M5, false, ?_, tree false (decide_eq_false k3)⟩
          show zor I J5 L M5 (if tk t (te t (te t (te t p))) = 3 then .inr (wset w (base + (6 * r + l)) v, te t (te t (te t (te t p)))) else .inl (tq t (te t (te t (te t p))))) false
          rw [if_neg k3]
          exact ⟨fr5, g13.trans g5, rfl, q5⟩
theorem kX12_takesLine {p : Nat} {t : Nat × zW} {w : zW} (hw : winv w) (htw : zTw t) (h : zn58 I w) (ht : zTr I t) (hp : p ≤ t.1) (h9 : I 56 9 = nI p) : ∃ J M ok, zor I J L M (sI3 t (w 2) (w 0) 3 p (fun i r s => wset w (119 + 8 * i + r) s)) ok ∧ zCall (d + 3) mX12_takesLine [.ref 56] (zh b I L) (some (.int (zB ok)), zh b J M) := by
  obtain ⟨⟨w0, w1, w2, w3, w4⟩, -⟩ := id hw
  obtain ⟨J1, M1, f1, g1, q1, e1, c1⟩ := kX12_takes (d := d) (b := b) (L := L) (lo := 0) (hx := w 2) (x2 := I 58 2 - 1) htw ht hp h9 (by decide) (by omega) (by rw [h 2 (by decide)]; exact nIm_toInt (by omega))
  have p1 := te_le hp
  unfold sI3
  cases s1 : sN t 0 (w 2) p with
  | none =>
    rw [s1] at c1
    exact ⟨J1, M1, false, ⟨f1.fr, g1, rfl, q1⟩, zCall.of okX12_takesLine (Nat.le_of_ble_eq_true rfl) ⟨Nat.le_refl _, Nat.le_refl _⟩ (fun G => tX12_takesLine_0 zR0.w ⟨false, J1, M1, c1, fun q => absurd q (by decide), fun _ => rfl⟩)⟩
  | some r =>
    rw [s1] at c1
    have S1 := sN_some s1
    obtain ⟨e1, v1⟩ := e1 r s1
    have h1 := f1.n58 h
    obtain ⟨J2, M2, f2, g2, q2, e2, c2⟩ := kX12_takes (d := d) (b := b) (L := M1) (lo := 0) (hx := w 0) (x2 := J1 58 0 - 1) htw (f1.tr ht) p1.2.1 e1 (by decide) (by omega) (by rw [h1 0 (by decide)]; exact nIm_toInt (by omega))
    have p2 := te_le p1.2.1
    cases s2 : sN t 0 (w 0) (te t p) with
    | none =>
      rw [s2] at c2
      exact ⟨J2, M2, false, ⟨(f1.trans f2).fr, g1.trans g2, rfl, q2⟩, zCall.of okX12_takesLine (Nat.le_of_ble_eq_true rfl) ⟨Nat.le_refl _, Nat.le_refl _⟩ (fun G => tX12_takesLine_0 zR0.w ⟨true, J1, M1, c1, fun _ => ⟨false, J2, M2, c2, fun q => absurd q (by decide), fun _ => rfl⟩, fun q => absurd q (by decide)⟩)⟩
    | some l =>
      rw [s2] at c2
      have S2 := sN_some s2
      obtain ⟨e2, v2⟩ := e2 l s2
      obtain ⟨J3, M3, f3, g3, q3, e3, c3⟩ := kX12_takes (d := d) (b := b) (L := M2) (lo := 0) (hx := 3) (x2 := 2) htw ((f1.trans f2).tr ht) p2.2.1 e2 (by decide) (by decide) (by decide)
      have p3 := te_le p2.2.1
      have f13 := f1.trans (f2.trans f3)
      have g13 := g1.trans (g2.trans g3)
      cases s3 : sN t 0 3 (te t (te t p)) with
      | none =>
        rw [s3] at c3
        exact ⟨J3, M3, false, ⟨f13.fr, g13, rfl, q3⟩, zCall.of okX12_takesLine (Nat.le_of_ble_eq_true rfl) ⟨Nat.le_refl _, Nat.le_refl _⟩ (fun G => tX12_takesLine_0 zR0.w ⟨true, J1, M1, c1, fun _ => ⟨true, J2, M2, c2, fun _ => ⟨false, J3, M3, c3, fun q => absurd q (by decide), fun _ => rfl⟩, fun q => absurd q (by decide)⟩, fun q => absurd q (by decide)⟩)⟩
      | some v =>
        rw [s3] at c3
        have S3 := sN_some s3
        obtain ⟨e3, v3⟩ := e3 v s3
        have fu : zfR J3 (zup J3 58 (119 + 8 * r + l) (nI v)) := ⟨fun i hi h2 => zup_ne h2, by rw [zup_ne (by decide)]⟩
        obtain ⟨J5, M5, f5, g5, q5, e5, c5⟩ := kX12_stops (d := d) (b := b) (L := M3) (I := zup J3 58 (119 + 8 * r + l) (nI v)) htw (fu.tr (f13.tr ht)) p3.2.1 (by rw [zup_ne (by decide)]; exact e3)
        have tree : ∀ ok : Bool, decide (tk t (te t (te t (te t p))) = 3) = ok → zCall (d + 3) mX12_takesLine [.ref 56] (zh b I L) (some (.int (zB ok)), zh b J5 M5) := fun ok hok => by
          rw [hok] at c5
          refine zCall.of okX12_takesLine (Nat.le_of_ble_eq_true rfl) ⟨Nat.le_refl _, Nat.le_refl _⟩ (fun G => tX12_takesLine_0 zR0.w ⟨true, J1, M1, c1, fun _ => ⟨true, J2, M2, c2, fun _ => ⟨true, J3, M3, c3, fun _ => ?_, fun q => absurd q (by decide)⟩, fun q => absurd q (by decide)⟩, fun q => absurd q (by decide)⟩)
          rw [v1, v2, v3, lN_i, lN_i, lN_i, zlineR, zx_nI (by omega)]
          exact ⟨zv_in (by omega) (by decide), ok, J5, M5, c5, rfl⟩
        have fr5 : zfR I J5 := f13.fr.trans (fu.trans f5.fr)
        by_cases k3 : tk t (te t (te t (te t p))) = 3
        · refine ⟨J5, M5, true, ?_, tree true (decide_eq_true k3)⟩
          show zor I J5 L M5 (if tk t (te t (te t (te t p))) = 3 then .inr (wset w (119 + 8 * r + l) v, te t (te t (te t (te t p)))) else .inl (tq t (te t (te t (te t p))))) true
          rw [if_pos k3]
          exact ⟨fr5, g13.trans g5, rfl, f5.n58 (n58_up (f13.n58 h)), e5 k3⟩
        · refine ⟨J5, M5, false, ?_, tree false (decide_eq_false k3)⟩
          show zor I J5 L M5 (if tk t (te t (te t (te t p))) = 3 then .inr (wset w (119 + 8 * r + l) v, te t (te t (te t (te t p)))) else .inl (tq t (te t (te t (te t p))))) false
          rw [if_neg k3]
          exact ⟨fr5, g13.trans g5, rfl, q5⟩
theorem kX12_takesRunner {p : Nat} {t : Nat × zW} {w : zW} (hw : winv w) (htw : zTw t) (h : zn58 I w) (ht : zTr I t) (hp : p ≤ t.1) (h9 : I 56 9 = nI p) (h6 : w 2 < 6) : ∃ J M ok, zor I J L M (sI3 t 5 (w 1) 100 p (fun k l s => wrun w k l s)) ok ∧ zCall (d + 3) mX12_takesRunner [.ref 56] (zh b I L) (some (.int (zB ok)), zh b J M) := by
  obtain ⟨⟨w0, w1, w2, w3, w4⟩, -⟩ := id hw
  have ne6 : ¬ I 58 2 = 6 := by rw [h 2 (by decide)]; exact fun z => absurd ((nIc (c := 6) (by omega) (by decide)).mp z) (by omega)
  obtain ⟨J1, M1, f1, g1, q1, e1, c1⟩ := kX12_takes (d := d) (b := b) (L := L) (lo := 0) (hx := 5) (x2 := 4) htw ht hp h9 (by decide) (by decide) (by decide)
  have p1 := te_le hp
  unfold sI3
  cases s1 : sN t 0 5 p with
  | none =>
    rw [s1] at c1
    exact ⟨J1, M1, false, ⟨f1.fr, g1, rfl, q1⟩, zCall.of okX12_takesRunner (Nat.le_of_ble_eq_true rfl) ⟨Nat.le_refl _, Nat.le_refl _⟩ (fun G => tX12_takesRunner_0 zR0.w ⟨fun q => absurd q ne6, fun _ => ⟨false, J1, M1, c1, fun q => absurd q (by decide), fun _ => rfl⟩⟩)⟩
  | some r =>
    rw [s1] at c1
    have S1 := sN_some s1
    obtain ⟨e1, v1⟩ := e1 r s1
    have h1 := f1.n58 h
    obtain ⟨J2, M2, f2, g2, q2, e2, c2⟩ := kX12_takes (d := d) (b := b) (L := M1) (lo := 0) (hx := w 1) (x2 := J1 58 1 - 1) htw (f1.tr ht) p1.2.1 e1 (by decide) (by omega) (by rw [h1 1 (by decide)]; exact nIm_toInt (by omega))
    have p2 := te_le p1.2.1
    cases s2 : sN t 0 (w 1) (te t p) with
    | none =>
      rw [s2] at c2
      exact ⟨J2, M2, false, ⟨(f1.trans f2).fr, g1.trans g2, rfl, q2⟩, zCall.of okX12_takesRunner (Nat.le_of_ble_eq_true rfl) ⟨Nat.le_refl _, Nat.le_refl _⟩ (fun G => tX12_takesRunner_0 zR0.w ⟨fun q => absurd q ne6, fun _ => ⟨true, J1, M1, c1, fun _ => ⟨false, J2, M2, c2, fun q => absurd q (by decide), fun _ => rfl⟩, fun q => absurd q (by decide)⟩⟩)⟩
    | some l =>
      rw [s2] at c2
      have S2 := sN_some s2
      obtain ⟨e2, v2⟩ := e2 l s2
      obtain ⟨J3, M3, f3, g3, q3, e3, c3⟩ := kX12_takes (d := d) (b := b) (L := M2) (lo := 0) (hx := 100) (x2 := 99) htw ((f1.trans f2).tr ht) p2.2.1 e2 (by decide) (by decide) (by decide)
      have p3 := te_le p2.2.1
      have f13 := f1.trans (f2.trans f3)
      have g13 := g1.trans (g2.trans g3)
      cases s3 : sN t 0 100 (te t (te t p)) with
      | none =>
        rw [s3] at c3
        exact ⟨J3, M3, false, ⟨f13.fr, g13, rfl, q3⟩, zCall.of okX12_takesRunner (Nat.le_of_ble_eq_true rfl) ⟨Nat.le_refl _, Nat.le_refl _⟩ (fun G => tX12_takesRunner_0 zR0.w ⟨fun q => absurd q ne6, fun _ => ⟨true, J1, M1, c1, fun _ => ⟨true, J2, M2, c2, fun _ => ⟨false, J3, M3, c3, fun q => absurd q (by decide), fun _ => rfl⟩, fun q => absurd q (by decide)⟩, fun q => absurd q (by decide)⟩⟩)⟩
      | some v =>
        rw [s3] at c3
        have S3 := sN_some s3
        obtain ⟨e3, v3⟩ := e3 v s3
        have hh := f13.n58 h
        have ka := kX12_joins (d := d + 2) (b := b) (L := M3) (a := 58) (n := w 2) rfl (by decide) (hh 2 (by decide)) h6 (nI r) (nI l) (nI v)
        have ne : ∀ i, i ≠ 58 → zup (zstr (zup (zup (zup J3 58 (101 + w 2) (nI r)) 58 (107 + w 2) (nI l)) 58 (113 + w 2) (nI v)) 58 (119 + 8 * w 2) 8) 58 2 (nI (w 2 + 1)) i = J3 i := fun i hi => by
          rw [zup_ne hi, zstr_ne hi, zup_ne hi, zup_ne hi, zup_ne hi]
        have fu : zfR J3 (zup (zstr (zup (zup (zup J3 58 (101 + w 2) (nI r)) 58 (107 + w 2) (nI l)) 58 (113 + w 2) (nI v)) 58 (119 + 8 * w 2) 8) 58 2 (nI (w 2 + 1))) := ⟨fun i hi h2 => ne i h2, by rw [ne 56 (by decide)]⟩
        obtain ⟨J5, M5, f5, g5, q5, e5, c5⟩ := kX12_stops (d := d) (b := b) (L := M3) (I := zup (zstr (zup (zup (zup J3 58 (101 + w 2) (nI r)) 58 (107 + w 2) (nI l)) 58 (113 + w 2) (nI v)) 58 (119 + 8 * w 2) 8) 58 2 (nI (w 2 + 1))) htw (fu.tr (f13.tr ht)) p3.2.1 (by rw [ne 56 (by decide)]; exact e3)
        have tree : ∀ ok : Bool, decide (tk t (te t (te t (te t p))) = 3) = ok → zCall (d + 3) mX12_takesRunner [.ref 56] (zh b I L) (some (.int (zB ok)), zh b J5 M5) := fun ok hok => by
          rw [hok] at c5
          refine zCall.of okX12_takesRunner (Nat.le_of_ble_eq_true rfl) ⟨Nat.le_refl _, Nat.le_refl _⟩ (fun G => tX12_takesRunner_0 zR0.w ⟨fun q => absurd q ne6, fun _ => ⟨true, J1, M1, c1, fun _ => ⟨true, J2, M2, c2, fun _ => ⟨true, J3, M3, c3, fun _ => ?_, fun q => absurd q (by decide)⟩, fun q => absurd q (by decide)⟩, fun q => absurd q (by decide)⟩⟩)
          rw [v1, v2, v3, lN_i, lN_i, lN_i]
          exact ⟨nI (w 2), _, ka, ok, J5, M5, c5, rfl⟩
        have fr5 : zfR I J5 := f13.fr.trans (fu.trans f5.fr)
        by_cases k3 : tk t (te t (te t (te t p))) = 3
        · refine ⟨J5, M5, true, ?_, tree true (decide_eq_true k3)⟩
          show zor I J5 L M5 (if tk t (te t (te t (te t p))) = 3 then .inr (wrun w r l v, te t (te t (te t (te t p)))) else .inl (tq t (te t (te t (te t p))))) true
          rw [if_pos k3]
          exact ⟨fr5, g13.trans g5, rfl, f5.n58 (zrun_now hh h6), e5 k3⟩
        · refine ⟨J5, M5, false, ?_, tree false (decide_eq_false k3)⟩
          show zor I J5 L M5 (if tk t (te t (te t (te t p))) = 3 then .inr (wrun w r l v, te t (te t (te t (te t p)))) else .inl (tq t (te t (te t (te t p))))) false
          rw [if_neg k3]
          exact ⟨fr5, g13.trans g5, rfl, q5⟩
theorem kX12_takesHill {t : Nat × zW} (htw : zTw t) (ht : zTr I t) (h9 : I 56 9 = nI 0) : ∃ J M ok, zor I J L M (sHill t) ok ∧ zCall (d + 3) mX12_takesHill [.ref 56] (zh b I L) (some (.int (zB ok)), zh b J M) := by
  obtain ⟨J0, M0, f0, g0, t3, t4, t5, t6, c0⟩ := kX12_next (d := d + 1) (b := b) (L := L) htw ht (Nat.zero_le _) h9
  have p0 := te_le (t := t) (Nat.zero_le t.1)
  have hk4 := tkq_le t (tq t 0)
  have ck : nI (tk t 0) = 1 ↔ tk t 0 = 1 := nIc (c := 1) (by show tkq t (tq t 0) < _; omega) (by decide)
  unfold sHill
  by_cases iw : isW t 0 0 = true
  · rw [if_pos iw]
    have k1 : tk t 0 = 1 := (of_decide_eq_true iw).1
    have cw : lg_cmp (M0 56 12) 271756 = 0 := by rw [t6]; exact (zword (k := 0) (by decide) (Nat.zero_le _) k1).mpr iw
    have te0 : J0 56 9 = nI (te t 0) := by rw [t3]; unfold teR; rw [show tkq t (tq t 0) = 1 from k1, if_neg (by decide)]; rfl
    have j11 : J0 56 11 = 1 := by rw [t5, k1]; rfl
    obtain ⟨J1, M1, f1, g1, q1, e1, c1⟩ := kX12_takes (d := d) (b := b) (L := M0) (lo := 1) (hx := 9) (x2 := 8) htw (f0.tr ht) p0.2.1 te0 (by decide) (by decide) (by decide)
    have p1 := te_le p0.2.1
    cases s1 : sN t 1 9 (te t 0) with
    | none =>
      rw [s1] at c1
      exact ⟨J1, M1, false, ⟨(f0.trans f1).fr, g0.trans g1, rfl, q1⟩, zCall.of okX12_takesHill (Nat.le_of_ble_eq_true rfl) ⟨Nat.le_refl _, Nat.le_refl _⟩ (fun G => tX12_takesHill_0 zR0.w ⟨J0, M0, c0, fun q => absurd j11 q, fun _ => ⟨fun q => absurd cw q, fun _ => ⟨false, J1, M1, c1, fun q => absurd q (by decide), fun _ => rfl⟩⟩⟩)⟩
    | some hh =>
      rw [s1] at c1
      obtain ⟨e1, v1⟩ := e1 hh s1
      obtain ⟨J2, M2, f2, g2, q2, e2, c2⟩ := kX12_takes (d := d) (b := b) (L := M1) (lo := 1) (hx := 7) (x2 := 6) htw ((f0.trans f1).tr ht) p1.2.1 e1 (by decide) (by decide) (by decide)
      have p2 := te_le p1.2.1
      have f02 := f0.trans (f1.trans f2)
      have g02 := g0.trans (g1.trans g2)
      cases s2 : sN t 1 7 (te t (te t 0)) with
      | none =>
        rw [s2] at c2
        exact ⟨J2, M2, false, ⟨f02.fr, g02, rfl, q2⟩, zCall.of okX12_takesHill (Nat.le_of_ble_eq_true rfl) ⟨Nat.le_refl _, Nat.le_refl _⟩ (fun G => tX12_takesHill_0 zR0.w ⟨J0, M0, c0, fun q => absurd j11 q, fun _ => ⟨fun q => absurd cw q, fun _ => ⟨true, J1, M1, c1, fun _ => ⟨false, J2, M2, c2, fun q => absurd q (by decide), fun _ => rfl⟩, fun q => absurd q (by decide)⟩⟩⟩)⟩
      | some ww =>
        rw [s2] at c2
        obtain ⟨e2, v2⟩ := e2 ww s2
        have fu : zfR J2 (zcln J2 58 (fun k => nI (wcl hh ww k)) 463) := ⟨fun i hi h2 => zcln_ne h2, by rw [zcln_ne (by decide)]⟩
        obtain ⟨J5, M5, f5, g5, q5, e5, c5⟩ := kX12_stops (d := d) (b := b) (L := M2) (I := zcln J2 58 (fun k => nI (wcl hh ww k)) 463) htw (fu.tr (f02.tr ht)) p2.2.1 (by rw [zcln_ne (by decide)]; exact e2)
        have tree : ∀ ok : Bool, decide (tk t (te t (te t (te t 0))) = 3) = ok → zCall (d + 3) mX12_takesHill [.ref 56] (zh b I L) (some (.int (zB ok)), zh b J5 M5) := fun ok hok => by
          rw [hok] at c5
          refine zCall.of okX12_takesHill (Nat.le_of_ble_eq_true rfl) ⟨Nat.le_refl _, Nat.le_refl _⟩ (fun G => tX12_takesHill_0 zR0.w ⟨J0, M0, c0, fun q => absurd j11 q, fun _ => ⟨fun q => absurd cw q, fun _ => ⟨true, J1, M1, c1, fun _ => ⟨true, J2, M2, c2, fun _ => ?_, fun q => absurd q (by decide)⟩, fun q => absurd q (by decide)⟩⟩⟩)
          rw [v1, v2, lN_i, lN_i]
          exact ⟨_, kX12_clean (d := d + 1) rfl (by decide) hh ww, ok, J5, M5, c5, rfl⟩
        have fr5 : zfR I J5 := f02.fr.trans (fu.trans f5.fr)
        have cl58 : zn58 (zcln J2 58 (fun k => nI (wcl hh ww k)) 463) (wcl hh ww) := fun k hk => by
          simp only [zcln]
          rw [if_pos ⟨trivial, hk⟩]
        by_cases k3 : tk t (te t (te t (te t 0))) = 3
        · refine ⟨J5, M5, true, ?_, tree true (decide_eq_true k3)⟩
          show zor I J5 L M5 (if tk t (te t (te t (te t 0))) = 3 then .inr (wcl hh ww, te t (te t (te t (te t 0)))) else .inl (tq t (te t (te t (te t 0))))) true
          rw [if_pos k3]
          exact ⟨fr5, g02.trans g5, rfl, f5.n58 cl58, e5 k3⟩
        · refine ⟨J5, M5, false, ?_, tree false (decide_eq_false k3)⟩
          show zor I J5 L M5 (if tk t (te t (te t (te t 0))) = 3 then .inr (wcl hh ww, te t (te t (te t (te t 0)))) else .inl (tq t (te t (te t (te t 0))))) false
          rw [if_neg k3]
          exact ⟨fr5, g02.trans g5, rfl, q5⟩
  · rw [if_neg iw]
    refine ⟨J0, M0, false, ⟨f0.fr, g0, rfl, t4⟩, zCall.of okX12_takesHill (Nat.le_of_ble_eq_true rfl) ⟨Nat.le_refl _, Nat.le_refl _⟩ (fun G => tX12_takesHill_0 zR0.w ⟨J0, M0, c0, fun _ => rfl, fun q => ⟨fun _ => rfl, fun q2 => absurd ?_ iw⟩⟩)⟩
    have k1 : tk t 0 = 1 := ck.mp (t5.symm.trans q)
    exact (zword (k := 0) (by decide) (Nat.zero_le _) k1).mp (by rw [t6] at q2; exact q2)
end PR
