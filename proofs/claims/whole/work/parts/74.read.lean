/-! pair: read -/
def zrr (I0 J : Nat → Nat → Int32) (L0 M : Nat → Nat → Int64) (s : Sum Nat (zW × Nat)) : Prop := zfR I0 J ∧ z56L L0 M ∧ (match s with | .inl q => J 56 10 = nI q | .inr x => zn58 J x.1)
theorem sAll_le (t : Nat × zW) : ∀ f it w p x, sAll t f it w p = .inr x → x.2 ≤ it + f := by
  intro f
  induction f with
  | zero => intro it w p x h; cases h
  | succ f ih =>
    intro it w p x h
    simp only [sAll] at h
    by_cases k0 : tk t p = 0
    · rw [if_pos k0] at h
      have h := Sum.inr.inj h
      subst h
      show it ≤ _
      omega
    · rw [if_neg k0] at h
      cases s : sIt t w p with
      | inl q => rw [s] at h; cases h
      | inr y =>
        rw [s] at h
        have := ih (it + 1) y.1 y.2 x h
        omega
theorem sAll_ok {t : Nat × zW} : ∀ f it w p x, winv w → p ≤ t.1 → sAll t f it w p = .inr x → winv x.1 := by
  intro f
  induction f with
  | zero => intro it w p x hw hp h; cases h
  | succ f ih =>
    intro it w p x hw hp h
    simp only [sAll] at h
    by_cases k0 : tk t p = 0
    · rw [if_pos k0] at h
      have h := Sum.inr.inj h
      subst h
      exact hw
    · rw [if_neg k0] at h
      cases s : sIt t w p with
      | inl q => rw [s] at h; cases h
      | inr y =>
        rw [s] at h
        obtain ⟨o1, o2, o3⟩ := sIt_ok hw hp s
        exact ih (it + 1) y.1 y.2 x o1 o3 h
section RR
variable {d b : Nat} {I : Nat → Nat → Int32} {L : Nat → Nat → Int64}
theorem kX12_all {t : Nat × zW} (htw : zTw t) (ht : zTr I t) : ∀ f it w p J M, it + f = 252 → it ≤ p → p ≤ t.1 → winv w → zfR I J → z56L L M → zn58 J w → J 56 9 = nI (teR t (tq t p)) → J 56 10 = nI (tq t p) → J 56 11 = nI (tk t p) → M 56 12 = zvl t (tq t p) → ∃ J' M', zrr I J' L M' (sAll t f it w p) ∧ ∀ G, zA G (d + 4) mX12_takesAll 20 [some (.ref 56), some (.int (nI it)), none] [] (zh b J M) (some (.int (sAns (sAll t f it w p))), zh b J' M') := by
  intro f
  induction f with
  | zero =>
    intro it w p J M hf hip hp
    have := htw.1
    omega
  | succ f ih =>
    intro it w p J M hf hip hp hw hJ hM hn h9 h10 h11 h12
    obtain ⟨⟨w0, w1, w2, w3, w4⟩, -⟩ := id hw
    have tr := hJ.tr ht
    have p1 := te_le hp
    have hk4 := tkq_le t (tq t p)
    have c0 : nI (tk t p) = 0 ↔ tk t p = 0 := nIc (c := 0) (by show tkq t (tq t p) < _; omega) (by decide)
    have c1 : nI (tk t p) = 1 ↔ tk t p = 1 := nIc (c := 1) (by show tkq t (tq t p) < _; omega) (by decide)
    by_cases k0 : tk t p = 0
    · have e : sAll t (f + 1) it w p = .inr (w, it) := by simp only [sAll]; rw [if_pos k0]
      rw [e]
      exact ⟨J, M, ⟨hJ, hM, hn⟩, fun G => tX12_takesAll_20 zR0.w ⟨fun _ => rfl, fun q => absurd (by rw [h11]; exact c0.mpr k0) q⟩⟩
    · have ea : sAll t (f + 1) it w p = match sIt t w p with | .inl q => .inl q | .inr x => sAll t f (it + 1) x.1 x.2 := by simp only [sAll]; rw [if_neg k0]; all_goals (cases sIt t w p <;> rfl)
      have nk : ¬ J 56 11 = 0 := by rw [h11]; exact fun z => k0 (c0.mp z)
      by_cases k1 : tk t p = 1
      · have j1 : J 56 11 = 1 := by rw [h11, k1]; rfl
        have te1 : J 56 9 = nI (te t p) := by rw [h9]; unfold teR; rw [show tkq t (tq t p) = 1 from k1, if_neg (by decide)]; rfl
        have zw : ∀ k, k < 5 → (lg_cmp (M 56 12) (lN (zcode k)) = 0 ↔ isW t k p = true) := fun k hk => by rw [h12]; exact zword hk hp k1
        have w1' : lg_cmp (M 56 12) 20332037 = 0 ↔ isW t 1 p = true := zw 1 (by decide)
        have w2' : lg_cmp (M 56 12) 254268868 = 0 ↔ isW t 2 p = true := zw 2 (by decide)
        have w3' : lg_cmp (M 56 12) 626473138 = 0 ↔ isW t 3 p = true := zw 3 (by decide)
        have w4' : lg_cmp (M 56 12) 402885 = 0 ↔ isW t 4 p = true := zw 4 (by decide)
        -- behind an item
        have step : ∀ J2 M2 ok, zor J J2 M M2 (sIt t w p) ok → ∃ J' M', zrr I J' L M' (sAll t (f + 1) it w p) ∧ ∀ G, ((ok = false → ((¬ (0 : Int32) = 0 → (∃ (I21 : Nat → Nat → Int32) (L22 : Nat → Nat → Int64), zCall (d + 3) mX12_next [.ref 56] (zh b J2 M2) (none, zh b I21 L22) ∧ zA G (d + 4) mX12_takesAll 20 [some (.ref 56), some (.int (nI it + 1)), none] [] (zh b I21 L22) (some (.int (sAns (sAll t (f + 1) it w p))), zh b J' M'))) ∧ ((0 : Int32) = 0 → ((some (.int (sAns (sAll t (f + 1) it w p))), zh b J' M') : zR) = (some (.int (-1)), zh b J2 M2)))) ∧ (ok = true → ((¬ (1 : Int32) = 0 → (∃ (I25 : Nat → Nat → Int32) (L26 : Nat → Nat → Int64), zCall (d + 3) mX12_next [.ref 56] (zh b J2 M2) (none, zh b I25 L26) ∧ zA G (d + 4) mX12_takesAll 20 [some (.ref 56), some (.int (nI it + 1)), none] [] (zh b I25 L26) (some (.int (sAns (sAll t (f + 1) it w p))), zh b J' M'))) ∧ ((1 : Int32) = 0 → ((some (.int (sAns (sAll t (f + 1) it w p))), zh b J' M') : zR) = (some (.int (-1)), zh b J2 M2))))) := by
          intro J2 M2 ok hz
          cases s : sIt t w p with
          | inl q =>
            rw [s] at hz
            obtain ⟨m1, m2, m3, m4⟩ := hz
            have e : sAll t (f + 1) it w p = .inl q := by rw [ea, s]
            rw [e]
            exact ⟨J2, M2, ⟨hJ.trans m1, hM.trans m2, m4⟩, fun G => ⟨fun _ => ⟨fun z => absurd rfl z, fun _ => rfl⟩, fun z => absurd (z.symm.trans m3) (by decide)⟩⟩
          | inr x =>
            rw [s] at hz
            obtain ⟨m1, m2, m3, m4, m5⟩ := hz
            obtain ⟨o1, o2, o3⟩ := sIt_ok hw hp s
            have e : sAll t (f + 1) it w p = sAll t f (it + 1) x.1 x.2 := by rw [ea, s]
            rw [e]
            have fr2 := hJ.trans m1
            obtain ⟨J3, M3, n1, n2, n3, n4, n5, n6, n7⟩ := kX12_next (d := d + 2) (b := b) (L := M2) htw (fr2.tr ht) o3 m5
            obtain ⟨J', M', r1, r2⟩ := ih (it + 1) x.1 x.2 J3 M3 (by omega) (by omega) o3 o1 (fr2.trans n1.fr) ((hM.trans m2).trans n2) (n1.n58 m4) n3 n4 n5 n6
            exact ⟨J', M', r1, fun G => ⟨fun z => absurd (z.symm.trans m3) (by decide), fun _ => ⟨fun _ => ⟨J3, M3, n7, by rw [nI_1]; exact r2 G⟩, fun z => absurd z (by decide)⟩⟩⟩
        by_cases i1 : isW t 1 p = true
        · have es : sIt t w p = sI3 t (w 0) (w 1) 10 (te t p) (fun r l v => wset w (5 + (6 * r + l)) v) := by unfold sIt; rw [if_pos i1]
          obtain ⟨J2, M2, ok, z1, z2⟩ := kX12_takesCell (d := d) (b := b) (L := M) (Or.inl ⟨rfl, rfl, rfl⟩) hw htw hn tr p1.2.1 te1
          rw [← es] at z1
          obtain ⟨J', M', r1, r2⟩ := step J2 M2 ok z1
          exact ⟨J', M', r1, fun G => tX12_takesAll_20 zR0.w ⟨fun q => absurd q nk, fun _ => ⟨fun q => absurd j1 q, fun _ => ⟨fun q => absurd (w1'.mpr i1) q, fun _ => ⟨ok, J2, M2, z2, r2 G⟩⟩⟩⟩⟩
        · have n1 : ¬ lg_cmp (M 56 12) 20332037 = 0 := fun z => i1 (w1'.mp z)
          by_cases i2 : isW t 2 p = true
          · have es : sIt t w p = sI3 t (w 0) (w 1) 4 (te t p) (fun r l v => wset w (53 + (6 * r + l)) v) := by unfold sIt; rw [if_neg i1, if_pos i2]
            obtain ⟨J2, M2, ok, z1, z2⟩ := kX12_takesCell (d := d) (b := b) (L := M) (Or.inr ⟨rfl, rfl, rfl⟩) hw htw hn tr p1.2.1 te1
            rw [← es] at z1
            obtain ⟨J', M', r1, r2⟩ := step J2 M2 ok z1
            exact ⟨J', M', r1, fun G => tX12_takesAll_20 zR0.w ⟨fun q => absurd q nk, fun _ => ⟨fun q => absurd j1 q, fun _ => ⟨fun _ => ⟨fun q => absurd (w2'.mpr i2) q, fun _ => ⟨ok, J2, M2, z2, r2 G⟩⟩, fun q => absurd q n1⟩⟩⟩⟩
          · have n2 : ¬ lg_cmp (M 56 12) 254268868 = 0 := fun z => i2 (w2'.mp z)
            by_cases i3 : isW t 3 p = true
            · have kr : ∃ J2 M2 ok, zor J J2 M M2 (sIt t w p) ok ∧ zCall (d + 3) mX12_takesRunner [.ref 56] (zh b J M) (some (.int (zB ok)), zh b J2 M2) := by
                by_cases h6 : w 2 < 6
                · have es : sIt t w p = sI3 t 5 (w 1) 100 (te t p) (fun k l s => wrun w k l s) := by unfold sIt; rw [if_neg i1, if_neg i2, if_pos i3, if_pos h6]
                  rw [es]
                  exact kX12_takesRunner (d := d) (b := b) (L := M) hw htw hn tr p1.2.1 te1 h6
                · have es : sIt t w p = .inl (tq t p) := by unfold sIt; rw [if_neg i1, if_neg i2, if_pos i3, if_neg h6]
                  rw [es]
                  exact ⟨J, M, false, ⟨z56.rf.fr, z56L.rf, rfl, h10⟩, zCall.of okX12_takesRunner (Nat.le_of_ble_eq_true rfl) ⟨Nat.le_refl _, Nat.le_refl _⟩ (fun G => tX12_takesRunner_0 zR0.w ⟨fun _ => rfl, fun q => absurd (by rw [hn 2 (by decide), show w 2 = 6 by omega]; rfl) q⟩)⟩
              obtain ⟨J2, M2, ok, z1, z2⟩ := kr
              obtain ⟨J', M', r1, r2⟩ := step J2 M2 ok z1
              exact ⟨J', M', r1, fun G => tX12_takesAll_20 zR0.w ⟨fun q => absurd q nk, fun _ => ⟨fun q => absurd j1 q, fun _ => ⟨fun _ => ⟨fun _ => ⟨fun q => absurd (w3'.mpr i3) q, fun _ => ⟨ok, J2, M2, z2, r2 G⟩⟩, fun q => absurd q n2⟩, fun q => absurd q n1⟩⟩⟩⟩
            · have n3 : ¬ lg_cmp (M 56 12) 626473138 = 0 := fun z => i3 (w3'.mp z)
              by_cases i4 : isW t 4 p = true
              · have es : sIt t w p = sI3 t (w 2) (w 0) 3 (te t p) (fun i r s => wset w (119 + 8 * i + r) s) := by unfold sIt; rw [if_neg i1, if_neg i2, if_neg i3, if_pos i4]
                obtain ⟨J2, M2, ok, z1, z2⟩ := kX12_takesLine (d := d) (b := b) (L := M) hw htw hn tr p1.2.1 te1
                rw [← es] at z1
                obtain ⟨J', M', r1, r2⟩ := step J2 M2 ok z1
                exact ⟨J', M', r1, fun G => tX12_takesAll_20 zR0.w ⟨fun q => absurd q nk, fun _ => ⟨fun q => absurd j1 q, fun _ => ⟨fun _ => ⟨fun _ => ⟨fun _ => ⟨fun q => absurd (w4'.mpr i4) q, fun _ => ⟨ok, J2, M2, z2, r2 G⟩⟩, fun q => absurd q n3⟩, fun q => absurd q n2⟩, fun q => absurd q n1⟩⟩⟩⟩
              · have n4 : ¬ lg_cmp (M 56 12) 402885 = 0 := fun z => i4 (w4'.mp z)
                have es : sIt t w p = .inl (tq t p) := by unfold sIt; rw [if_neg i1, if_neg i2, if_neg i3, if_neg i4]
                rw [ea, es]
                exact ⟨J, M, ⟨hJ, hM, h10⟩, fun G => tX12_takesAll_20 zR0.w ⟨fun q => absurd q nk, fun _ => ⟨fun q => absurd j1 q, fun _ => ⟨fun _ => ⟨fun _ => ⟨fun _ => ⟨fun _ => ⟨fun z => absurd rfl z, fun _ => rfl⟩, fun q => absurd q n4⟩, fun q => absurd q n3⟩, fun q => absurd q n2⟩, fun q => absurd q n1⟩⟩⟩⟩
      · have es : sIt t w p = .inl (tq t p) := by
          unfold sIt
          rw [isW_no k1, isW_no k1, isW_no k1, isW_no k1, if_neg (by decide), if_neg (by decide), if_neg (by decide), if_neg (by decide)]
        rw [ea, es]
        exact ⟨J, M, ⟨hJ, hM, h10⟩, fun G => tX12_takesAll_20 zR0.w ⟨fun q => absurd q nk, fun _ => ⟨fun _ => ⟨fun z => absurd rfl z, fun _ => rfl⟩, fun q => absurd (c1.mp (h11.symm.trans q)) k1⟩⟩⟩
theorem kX12_takesAll {t : Nat × zW} (htw : zTw t) (ht : zTr I t) : ∃ J M, zrr I J L M (sRead t) ∧ zCall (d + 4) mX12_takesAll [.ref 56] (zh b I L) (some (.int (sAns (sRead t))), zh b J M) := by
  have u0 : z56 I (zup I 56 9 0) := z56.rf.up (by decide)
  obtain ⟨J2, M2, ok, g1, g2⟩ := kX12_takesHill (d := d) (b := b) (L := L) htw (u0.tr ht) (by simp [zup]; rfl)
  unfold sRead
  cases s : sHill t with
  | inl q =>
    rw [s] at g1
    obtain ⟨m1, m2, m3, m4⟩ := g1
    exact ⟨J2, M2, ⟨u0.fr.trans m1, m2, m4⟩, zCall.of okX12_takesAll (Nat.le_of_ble_eq_true rfl) ⟨Nat.le_refl _, Nat.le_refl _⟩ (fun G => tX12_takesAll_0 zR0.w ⟨ok, J2, M2, g2, fun z => absurd (z.symm.trans m3) (by decide), fun _ => rfl⟩)⟩
  | inr x =>
    rw [s] at g1
    obtain ⟨m1, m2, m3, m4, m5⟩ := g1
    obtain ⟨o1, o2, o3⟩ := sHill_ok s
    have fr2 := u0.fr.trans m1
    obtain ⟨J3, M3, n1, n2, n3, n4, n5, n6, n7⟩ := kX12_next (d := d + 2) (b := b) (L := M2) htw (fr2.tr ht) o3 m5
    obtain ⟨J', M', r1, r2⟩ := kX12_all (d := d) (b := b) (L := L) htw ht 251 1 x.1 x.2 J3 M3 (by omega) o2 o3 o1 (fr2.trans n1.fr) (m2.trans n2) (n1.n58 m4) n3 n4 n5 n6
    exact ⟨J', M', r1, zCall.of okX12_takesAll (Nat.le_of_ble_eq_true rfl) ⟨Nat.le_refl _, Nat.le_refl _⟩ (fun G => tX12_takesAll_0 zR0.w ⟨ok, J2, M2, g2, fun _ => ⟨J3, M3, n7, r2 G⟩, fun z => absurd (z.symm.trans m3) (by decide)⟩)⟩
end RR
theorem p_read : zPair mX11_read mX12_read [] := by
  refine zPair.of fun σ hi => ?_
  have htw : zTw σ.2.1 := hi.2.1
  have spl : ∀ {b : Nat}, zbl b → (b = 1 ∧ 11 - b = 10) ∨ (b = 10 ∧ 11 - b = 1) := fun hb => by rcases hb with rfl | rfl <;> omega
  cases s : sRead σ.2.1 with
  | inl q =>
    refine ⟨.int (-10 - nI q), σ, fun d b I L hc => ?_, fun d b I L hc => ?_, hi, Or.inl ⟨rfl, _, rfl⟩⟩
    · obtain ⟨J, g1, g2⟩ := kX7_readInto (d := d + 32) (b := b) (L := L) hc.1.sp.hl htw hc.2.2.1
      rw [s] at g1 g2
      obtain ⟨m1, m2⟩ := g1
      have kr := (kX11_read hc.1 g2).1 (show ¬ (0 : Int32) ≤ -1 by decide)
      rw [m2] at kr
      refine ⟨b, J, L, kr, ?_, fun i hi' => m1.1 i (by omega) (by have := spl hc.1; omega), zhiL.rf⟩
      obtain ⟨h1, h2, h3, h4, h5, h6, h7⟩ := hc
      have sp := spl h1
      refine ⟨h1, h2.congr (fun k hk => m1.1 (b + k) (by omega) (by omega)), ?_, h4, ?_, h6.congr (fun k hk => m1.1 (19 + k) (by omega) (by omega)), h7.congr (fun k hk => m1.1 (28 + k) (by omega) (by omega))⟩
      · exact ⟨m1.2.trans h3.1, fun k hk => by rw [m1.1 54 (by decide) (by omega)]; exact h3.2 k hk⟩
      · rw [m1.1 0 (by decide) (by omega)]; exact h5
    · obtain ⟨J, M, g1, g2⟩ := kX12_takesAll (d := d + 35) (b := b) (L := L) htw hc.2.1
      rw [s] at g1 g2
      obtain ⟨m1, m2, m3⟩ := g1
      have m3 : J 56 10 = nI q := m3
      refine ⟨J, M, zCall.of okX12_read (Nat.le_of_ble_eq_true rfl) ⟨Nat.le_refl _, Nat.le_refl _⟩ (fun G => tX12_read_0 (d := d + 35) zR0.w ⟨-1, J, M, g2, fun z => absurd z (by decide), fun _ => by rw [m3]⟩), ?_, fun i hi' => m1.1 i (by omega) (by omega), fun i hi' => m2.1 i (by omega)⟩
      obtain ⟨h1, h2, h3, h4, h5, h6⟩ := hc
      unfold zRf
      rw [m1.1 57 (by decide) (by decide), m1.2, m1.1 61 (by decide) (by decide), m2.2.1, m2.2.2, m1.1 62 (by decide) (by decide), m1.1 60 (by decide) (by decide), m1.1 59 (by decide) (by decide)]
      exact ⟨h1, h2, h3, h4, h5, h6⟩
  | inr x =>
    have hle : x.2 ≤ 252 := by
      unfold sRead at s
      cases sh : sHill σ.2.1 with
      | inl q => rw [sh] at s; cases s
      | inr y => rw [sh] at s; exact sAll_le _ _ _ _ _ _ s
    have hwx : winv x.1 := by
      unfold sRead at s
      cases sh : sHill σ.2.1 with
      | inl q => rw [sh] at s; cases s
      | inr y =>
        rw [sh] at s
        obtain ⟨o1, o2, o3⟩ := sHill_ok sh
        exact sAll_ok _ _ _ _ _ o1 o3 s
    have pos : (0 : Int32) ≤ nI x.2 := nI_le (Nat.zero_le _) (by omega)
    refine ⟨.int (nI x.2), (x.1, σ.2), fun d b I L hc => ?_, fun d b I L hc => ?_, ⟨hwx, hi.2⟩, Or.inl ⟨rfl, _, rfl⟩⟩
    · obtain ⟨J, g1, g2⟩ := kX7_readInto (d := d + 32) (b := b) (L := L) hc.1.sp.hl htw hc.2.2.1
      rw [s] at g1 g2
      obtain ⟨m1, m2⟩ := g1
      refine ⟨11 - b, J, L, (kX11_read hc.1 g2).2 pos, ?_, fun i hi' => m1.1 i (by omega) (by have := spl hc.1; omega), zhiL.rf⟩
      obtain ⟨h1, h2, h3, h4, h5, h6, h7⟩ := hc
      have sp := spl h1
      refine ⟨h1.sp, m2, ?_, h4, ?_, h6.congr (fun k hk => m1.1 (19 + k) (by omega) (by omega)), h7.congr (fun k hk => m1.1 (28 + k) (by omega) (by omega))⟩
      · exact ⟨m1.2.trans h3.1, fun k hk => by rw [m1.1 54 (by decide) (by omega)]; exact h3.2 k hk⟩
      · rw [m1.1 0 (by decide) (by omega)]; exact h5
    · obtain ⟨J, M, g1, g2⟩ := kX12_takesAll (d := d + 35) (b := b) (L := L) htw hc.2.1
      rw [s] at g1 g2
      obtain ⟨m1, m2, m3⟩ := g1
      have m3 : zn58 J x.1 := m3
      have kc := kX12_copy (d := d + 39) (b := b) (I := J) (L := M) (a := 58) (c := 57) (x := 0) (y := 0) (n := 463) (m := 463) rfl (by decide) rfl (by decide) (by decide) (by decide) (by decide) (by decide)
      have ne : ∀ i, i ≠ 57 → zcp J 58 57 0 0 463 i = J i := fun i hi' => zcp_ne hi'
      refine ⟨zcp J 58 57 0 0 463, M, zCall.of okX12_read (Nat.le_of_ble_eq_true rfl) ⟨Nat.le_refl _, Nat.le_refl _⟩ (fun G => tX12_read_0 (d := d + 35) zR0.w ⟨nI x.2, J, M, g2, fun _ => ⟨_, kc, rfl⟩, fun z => absurd pos z⟩), ?_, fun i hi' => by rw [ne i (by omega)]; exact m1.1 i (by omega) (by omega), fun i hi' => m2.1 i (by omega)⟩
      obtain ⟨h1, h2, h3, h4, h5, h6⟩ := hc
      unfold zRf
      rw [ne 56 (by decide), ne 61 (by decide), ne 62 (by decide), ne 60 (by decide), ne 59 (by decide), m1.2, m1.1 61 (by decide) (by decide), m2.2.1, m2.2.2, m1.1 62 (by decide) (by decide), m1.1 60 (by decide) (by decide), m1.1 59 (by decide) (by decide)]
      refine ⟨fun k hk => ?_, h2, h3, h4, h5, h6⟩
      simp only [zcp]
      rw [if_pos ⟨trivial, by omega, by omega⟩, show 0 + (k - 0) = k by omega]
      exact m3 k hk
