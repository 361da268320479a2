/-! pair waits -/
theorem ring_ne {T j a : Nat} (h : j + 1 < a) (ha : a ≤ 3) : (T + (j + 1)) % a ≠ T % a := by
  rcases (by omega : a = 2 ∨ a = 3) with rfl | rfl <;> omega
theorem zrem_n {x a : Nat} (hx : x < 2 ^ 31) (h0 : 0 < a) (ha : a < 2 ^ 31) : zrem (nI x) (nI a) = nI (x % a) := pk_rem hx h0 ha
theorem wTk_le {w : zW} {n : Nat} (hh : ∀ k, k < n → w (167 + k) ≤ 3) : ∀ k, k ≤ n → wTk w k ≤ 3 * k := by
  intro k
  induction k with
  | zero => intro _; exact Nat.le_refl _
  | succ k ih =>
    intro hk
    have h1 := ih (by omega)
    have h2 := hh k (by omega)
    show wTk w k + w (167 + k) ≤ _
    omega
theorem p_waits (x1 x2 : Int32) : zPair mX11_waits mX12_waits [.int x1, .int x2] := by
  refine zPair.of fun σ hi => ?_
  obtain ⟨⟨hw0, hw1, hw2, hw3, hw4⟩, -, -, -, hu3, -⟩ := id hi.1
  have e1 : (1 ≤ x1 ∧ x1 ≤ 3) ↔ zin x1 1 3 := zin_c (lo := 1) (hi := 3) (by decide) (by decide)
  have r1 : (1 ≤ x1.toInt64 ∧ x1.toInt64 ≤ 3) ↔ zin x1 1 3 := zin_r (lo := 1) (hi := 3) (by decide) (by decide)
  have e3 : (1 ≤ x2 ∧ x2 ≤ 99) ↔ zin x2 1 99 := zin_c (lo := 1) (hi := 99) (by decide) (by decide)
  have r3 : (1 ≤ x2.toInt64 ∧ x2.toInt64 ≤ 99) ↔ zin x2 1 99 := zin_r (lo := 1) (hi := 99) (by decide) (by decide)
  by_cases hv : zin x1 1 3 ∧ zin x2 1 99
  · obtain ⟨a, ha1, ha3, rfl⟩ := hv.1.nat (by decide)
    obtain ⟨m, hm1, hm, rfl⟩ := hv.2.nat (by decide)
    by_cases hf : wmh σ.1 (σ.1 3) ≤ a
    · have hh := (wmh_le (σ.1 3)).mp hf
      have inv := wwt_inv (m := m) ha1 hm hh
      have tk := wTk_le hu3
      refine ⟨.int (nI (wwt σ.1 a m (σ.1 3)).2.2), σ, fun d b I L hc => ?_, fun d b I L hc => ?_, hi, Or.inl ⟨rfl, _, rfl⟩⟩
      · have hb44 := hc.1.lt44
        have i3 : I b 3 = nI (σ.1 3) := hc.2.1.1.2.2.2.1
        have i7 : ∀ k, k < σ.1 3 → I (b + 7) k = nI (σ.1 (167 + k)) := hc.2.1.2.2.2.2.1
        have key := z_for (n := σ.1 3) (P := fun k => ∀ J, (∀ i, i ≠ 55 → J i = I i) → (∀ j, j < a → J 55 ((wTk σ.1 k + j) % a) = nI ((wwt σ.1 a m k).2.1 j)) → ∃ J', (∀ i, i ≠ 55 → J' i = I i) ∧ ∀ G, zA G (d + 40) mX11_waits 63 [some (.ref 0), some (.int (nI a)), some (.int (nI m)), some (.int (nI (wTk σ.1 k))), some (.int (nI (wwt σ.1 a m k).1)), some (.int (nI (wwt σ.1 a m k).2.2)), some (.int (nI k)), none, none, none] [] (zh b J L) (some (.int (nI (wwt σ.1 a m (σ.1 3)).2.2)), zh b J' L)) ?_ ?_ 0 (Nat.zero_le _)
        · obtain ⟨J', h1, h2⟩ := key (zfill I 55 3 0) (fun i hi' => zfill_ne hi') (fun j hj => by
            have : (wTk σ.1 0 + j) % a < 3 := Nat.lt_of_lt_of_le (Nat.mod_lt _ ha1) ha3
            simp only [zfill]
            rw [if_pos ⟨trivial, this⟩]; rfl)
          refine ⟨b, J', L, zCall.of okX11_waits (Nat.le_of_ble_eq_true rfl) ⟨Nat.le_refl _, Nat.le_refl _⟩ (fun G => tX11_waits_0 (d := d + 38) hc.1 zR0.w ⟨fun q => absurd (e1.mpr hv.1) q, fun _ => ⟨fun _ => ⟨_, kX4_mostHurt (d := d + 38) hc.1.hl hi.1 hc.2.1, fun _ => ⟨_, kfill rfl (by decide) (by decide) 0, h2 G⟩, fun q => absurd (nI_le hf (by omega)) q⟩, fun q => absurd (e3.mpr hv.2) q⟩⟩), ?_, fun i hi' => h1 i (by omega), zhiL.rf⟩
          exact hc.idle (fun i hi' => h1 i (by omega)) (by rw [h1 53 (by decide)]) (fun k _ => by rw [h1 54 (by decide)])
        · intro J hJ _
          exact ⟨J, hJ, fun G => tX11_waits_63 (d := d + 38) hc.1 zR0.w ⟨fun _ => rfl, fun q => absurd (by rw [hJ b (by omega), i3]; exact nI_le (Nat.le_refl _) (by omega)) q⟩⟩
        · intro k hk ih J hJ hr
          obtain ⟨v1, v2, v3, v4⟩ := inv k (by omega)
          have hkh := hh k hk
          have hT := tk k (by omega)
          have hR := v2 (max 1 (σ.1 (167 + k)) - 1) (by omega)
          have hBd : wB σ.1 a m k = max (wwt σ.1 a m k).1 ((wwt σ.1 a m k).2.1 (max 1 (σ.1 (167 + k)) - 1)) := rfl
          have inner := z_for (n := σ.1 (167 + k)) (P := fun x => ∀ J, (∀ i, i ≠ 55 → J i = I i) → (∀ j, j < a → J 55 ((wTk σ.1 k + x + j) % a) = nI (wrg a (wB σ.1 a m k + m) (wwt σ.1 a m k).2.1 x j)) → ∃ J', (∀ i, i ≠ 55 → J' i = I i) ∧ ∀ G, zA G (d + 40) mX11_waits 114 [some (.ref 0), some (.int (nI a)), some (.int (nI m)), some (.int (nI (wTk σ.1 k + x))), some (.int (nI (wwt σ.1 a m k).1)), some (.int (nI (wwt σ.1 a m k).2.2)), some (.int (nI k)), some (.int (nI (max 1 (σ.1 (167 + k))))), some (.int (nI (wB σ.1 a m k))), some (.int (nI x))] [] (zh b J L) (some (.int (nI (wwt σ.1 a m (σ.1 3)).2.2)), zh b J' L)) ?_ ?_ 0 (Nat.zero_le _)
          · obtain ⟨J', h1, h2⟩ := inner J hJ hr
            refine ⟨J', h1, fun G => tX11_waits_63 (d := d + 38) hc.1 zR0.w ⟨fun q => absurd q (by rw [hJ b (by omega), i3]; exact nI_ge hk (by omega)), fun _ => ?_⟩⟩
            have em : (if (1 : Int32) < nI (σ.1 (167 + k)) then nI (σ.1 (167 + k)) else 1) = nI (max 1 (σ.1 (167 + k))) := by
              have c : (1 : Int32) < nI (σ.1 (167 + k)) ↔ 1 < σ.1 (167 + k) := nI_ltI (a := 1) (by decide) (by omega)
              by_cases z : 1 < σ.1 (167 + k)
              · rw [if_pos (c.mpr z), show max 1 (σ.1 (167 + k)) = σ.1 (167 + k) by omega]
              · rw [if_neg (fun y => z (c.mp y)), show max 1 (σ.1 (167 + k)) = 1 by omega]; rfl
            have ml : (wTk σ.1 k + (max 1 (σ.1 (167 + k)) - 1)) % a < a := Nat.mod_lt _ ha1
            rw [hJ (b + 7) (by omega), zx_nI (by omega), i7 k hk, em, nI_add, show (1 : Int32) = nI 1 from rfl, pk_sub (by omega), show wTk σ.1 k + max 1 (σ.1 (167 + k)) - 1 = wTk σ.1 k + (max 1 (σ.1 (167 + k)) - 1) by omega, zrem_n (by omega) ha1 (by omega), zx_nI (by omega), hr _ (by omega)]
            have eb : (if nI (wwt σ.1 a m k).1 < nI ((wwt σ.1 a m k).2.1 (max 1 (σ.1 (167 + k)) - 1)) then nI ((wwt σ.1 a m k).2.1 (max 1 (σ.1 (167 + k)) - 1)) else nI (wwt σ.1 a m k).1) = nI (wB σ.1 a m k) := by
              rw [hBd]
              have c : nI (wwt σ.1 a m k).1 < nI ((wwt σ.1 a m k).2.1 (max 1 (σ.1 (167 + k)) - 1)) ↔ (wwt σ.1 a m k).1 < (wwt σ.1 a m k).2.1 (max 1 (σ.1 (167 + k)) - 1) := nI_ltI (by omega) (by omega)
              by_cases z : (wwt σ.1 a m k).1 < (wwt σ.1 a m k).2.1 (max 1 (σ.1 (167 + k)) - 1)
              · rw [if_pos (c.mpr z)]; congr 1; omega
              · rw [if_neg (fun y => z (c.mp y))]; congr 1; omega
            rw [eb]
            exact ⟨zv_in (by omega) (by decide), nI_ne0 ha1 (by omega), zv_in (by omega) (by decide), h2 G⟩
          · intro J hJ hr
            obtain ⟨J', h1, h2⟩ := ih J hJ hr
            refine ⟨J', h1, fun G => tX11_waits_114 (d := d + 38) hc.1 ?_⟩
            rw [zx_nI (by omega), hJ (b + 7) (by omega), i7 k hk]
            refine ⟨zv_in (by omega) (by decide), fun _ => ?_, fun q => absurd (nI_le (Nat.le_refl _) (by omega)) q⟩
            rw [pk_sub (by omega), nI_add, nI_1, nI_1]
            exact h2 G
          · intro x hx ih2 J hJ hr
            have ml : (wTk σ.1 k + x) % a < a := Nat.mod_lt _ ha1
            obtain ⟨J', h1, h2⟩ := ih2 (zup J 55 ((wTk σ.1 k + x) % a) (nI (wB σ.1 a m k + m))) (fun i hi' => by rw [zup_ne hi']; exact hJ i hi') (fun j hj => by
              rw [zup_self]
              simp only [upd]
              show _ = nI (if j + 1 < a then _ else _)
              by_cases z : j + 1 < a
              · rw [if_pos z, show wTk σ.1 k + (x + 1) + j = wTk σ.1 k + x + (j + 1) by omega, if_neg (ring_ne z ha3)]
                exact hr _ z
              · rw [if_neg z, show wTk σ.1 k + (x + 1) + j = wTk σ.1 k + x + a by omega, Nat.add_mod_right, if_pos rfl])
            refine ⟨J', h1, fun G => tX11_waits_114 (d := d + 38) hc.1 ?_⟩
            rw [zx_nI (show k < 2 ^ 31 by omega), hJ (b + 7) (by omega), i7 k hk, zrem_n (by omega) ha1 (by omega), zx_nI (by omega)]
            refine ⟨zv_in (by omega) (by decide), fun q => absurd q (nI_ge hx (by omega)), fun _ => ⟨nI_ne0 ha1 (by omega), zv_in (by omega) (by decide), ?_⟩⟩
            rw [nI_add, nI_1, nI_1]
            exact h2 G
      · have now3 : ∀ J, z63 I J → J 57 3 = nI (σ.1 3) := fun J hJ => hJ.now hc.1 3 (by decide)
        have now7 : ∀ J, z63 I J → ∀ k, k < σ.1 3 → J 57 (167 + k) = nI (σ.1 (167 + k)) := fun J hJ k hk => hJ.now hc.1 _ (by omega)
        have key := z_for (n := σ.1 3) (P := fun k => ∀ (J : Nat → Nat → Int32) (f : Nat → Nat), z63 I J → (∀ e, e < a → J 73 e = nI (f e)) → (∀ e, e < a → f e ≤ (wwt σ.1 a m k).1 + 99) → (∀ M, (wwt σ.1 a m k).1 ≤ M → zcl a f M = zcl a (wwt σ.1 a m k).2.1 M) → ∃ J', z63 I J' ∧ ∀ G, zA G (d + 40) mX12_waits 104 [some (.ref 56), some (.int (nI a)), some (.int (nI m)), some (.int (nI (wwt σ.1 a m k).2.2)), some (.int (nI (wwt σ.1 a m k).1)), some (.int (nI k)), none, none, none] [] (zh b J L) (some (.int (nI (wwt σ.1 a m (σ.1 3)).2.2)), zh b J' L)) ?_ ?_ 0 (Nat.zero_le _)
        · have zero := z_for (n := 3) (P := fun n => ∀ J, z63 I J → (∀ e, e < n → J 73 e = 0) → ∃ J', z63 I J' ∧ ∀ G, zA G (d + 40) mX12_waits 78 [some (.ref 56), some (.int (nI a)), some (.int (nI m)), some (.int (nI n)), none, none, none, none, none] [] (zh b J L) (some (.int (nI (wwt σ.1 a m (σ.1 3)).2.2)), zh b J' L)) ?_ ?_ 0 (Nat.zero_le _)
          · obtain ⟨J', h1, h2⟩ := zero I z63.rf (fun e he => absurd he (Nat.not_lt_zero e))
            refine ⟨J', L, zCall.of okX12_waits (Nat.le_of_ble_eq_true rfl) ⟨Nat.le_refl _, Nat.le_refl _⟩ (fun G => tX12_waits_0 (d := d + 39) zR0.w ⟨fun q => absurd (r1.mpr hv.1) q, fun _ => ⟨fun _ => ?_, fun q => absurd (r3.mpr hv.2) q⟩⟩), hc.w63 h1, h1.lo, zloL.rf⟩
            refine z_for (n := σ.1 3) (P := fun k => zA G (d + 40) mX12_waits 36 [some (.ref 56), some (.int (nI a)), some (.int (nI m)), some (.int (nI k)), none, none, none, none, none] [] (zh b I L) _) ?_ ?_ 0 (Nat.zero_le _)
            · exact tX12_waits_36 (d := d + 39) zR0.w ⟨fun _ => h2 G, fun q => absurd (by rw [now3 I z63.rf]; exact nI_le (Nat.le_refl _) (by omega)) q⟩
            · intro k hk ih
              have := hh k hk
              refine tX12_waits_36 (d := d + 39) zR0.w ⟨fun q => absurd q (by rw [now3 I z63.rf]; exact nI_ge hk (by omega)), fun _ => ?_⟩
              rw [show (167 : Int32) = nI 167 from rfl, nI_add, zx_nI (by omega), now7 I z63.rf k hk, nI_1]
              exact ⟨zv_in (by omega) (by decide), fun _ => ih, fun q => absurd (nI_le this (by omega)) q⟩
          · intro J hJ hz
            obtain ⟨J', h1, h2⟩ := key J (fun _ => 0) hJ (fun e he => hz e (by omega)) (fun e he => Nat.zero_le _) (fun M hM => rfl)
            exact ⟨J', h1, fun G => tX12_waits_78 (d := d + 39) ⟨fun _ => h2 G, fun q => absurd (by decide) q⟩⟩
          · intro n hn ih J hJ hz
            obtain ⟨J', h1, h2⟩ := ih (zup J 73 n 0) (hJ.up (by decide)) (fun e he => by
              rw [zup_self]
              simp only [upd]
              by_cases z : e = n
              · rw [if_pos z]
              · rw [if_neg z]; exact hz e (by omega))
            refine ⟨J', h1, fun G => tX12_waits_78 (d := d + 39) ⟨fun q => absurd q (nI_ge (b := 3) hn (by decide)), fun _ => ?_⟩⟩
            rw [zx_nI (by omega), nI_1]
            exact ⟨zv_in hn (by decide), h2 G⟩
        · intro J f hJ _ _ _
          exact ⟨J, hJ, fun G => tX12_waits_104 (d := d + 39) ⟨fun _ => rfl, fun q => absurd (by rw [now3 J hJ]; exact nI_le (Nat.le_refl _) (by omega)) q⟩⟩
        · intro k hk ih J f hJ hJf hfb hcl
          obtain ⟨v1, v2, v3, v4⟩ := inv k (by omega)
          have hkh := hh k hk
          have hR := v2 (max 1 (σ.1 (167 + k)) - 1) (by omega)
          have hBd : wB σ.1 a m k = max (wwt σ.1 a m k).1 ((wwt σ.1 a m k).2.1 (max 1 (σ.1 (167 + k)) - 1)) := rfl
          have hn1 : 1 ≤ max 1 (σ.1 (167 + k)) := by omega
          have hna : max 1 (σ.1 (167 + k)) ≤ a := by omega
          have hRlo : ∀ j, j < σ.1 (167 + k) → (wwt σ.1 a m k).2.1 j ≤ wB σ.1 a m k := fun j hj => by
            have := v1 j (max 1 (σ.1 (167 + k)) - 1) (by omega) (by omega)
            omega
          have take := z_for (n := a) (P := fun e => ∀ (J : Nat → Nat → Int32) (g : Nat → Nat) (q : Nat), z63 I J → (∀ e, e < a → J 73 e = nI (g e)) → (∀ e, e < a → g e ≤ wB σ.1 a m k + 99) → q ≤ σ.1 (167 + k) → q + zct (fun j => decide (g j ≤ wB σ.1 a m k)) e ≤ zcl a g (wB σ.1 a m k) → (∀ M, wB σ.1 a m k ≤ M → zcl a g M + (σ.1 (167 + k) - q) = zcl a f M + (if wB σ.1 a m k + m ≤ M then σ.1 (167 + k) - q else 0)) → ∃ J', z63 I J' ∧ ∀ G, zA G (d + 40) mX12_waits 183 [some (.ref 56), some (.int (nI a)), some (.int (nI m)), some (.int (nI ((wwt σ.1 a m k).2.2 + (wB σ.1 a m k - (wwt σ.1 a m k).1)))), some (.int (nI (wB σ.1 a m k))), some (.int (nI k)), some (.int (nI (max 1 (σ.1 (167 + k))))), some (.int (nI q)), some (.int (nI e))] [] (zh b J L) (some (.int (nI (wwt σ.1 a m (σ.1 3)).2.2)), zh b J' L)) ?_ ?_ 0 (Nat.zero_le _)
          · have h0 : max 1 (σ.1 (167 + k)) ≤ zcl a f (wB σ.1 a m k) := by
              rw [hcl _ (by omega)]
              exact (zcl_ge v1 hn1 hna).mpr (by omega)
            obtain ⟨J', h1, h2⟩ := take J f (σ.1 (167 + k)) hJ hJf (fun e he => by have := hfb e he; omega) (Nat.le_refl _) (by show σ.1 (167 + k) + 0 ≤ _; omega) (fun M hM => by rw [Nat.sub_self]; split <;> rfl)
            refine ⟨J', h1, fun G => ?_⟩
            have wl : zA G (d + 40) mX12_waits 146 [some (.ref 56), some (.int (nI a)), some (.int (nI m)), some (.int (nI (wwt σ.1 a m k).2.2)), some (.int (nI (wwt σ.1 a m k).1)), some (.int (nI k)), some (.int (nI (max 1 (σ.1 (167 + k))))), none, none] [] (zh b J L) (some (.int (nI (wwt σ.1 a m (σ.1 3)).2.2)), zh b J' L) := by
              refine z_for (n := wB σ.1 a m k - (wwt σ.1 a m k).1) (P := fun s => zA G (d + 40) mX12_waits 146 [some (.ref 56), some (.int (nI a)), some (.int (nI m)), some (.int (nI ((wwt σ.1 a m k).2.2 + s))), some (.int (nI ((wwt σ.1 a m k).1 + s))), some (.int (nI k)), some (.int (nI (max 1 (σ.1 (167 + k))))), none, none] [] (zh b J L) _) ?_ ?_ 0 (Nat.zero_le _)
              · have es : (wwt σ.1 a m k).1 + (wB σ.1 a m k - (wwt σ.1 a m k).1) = wB σ.1 a m k := by omega
                have zc := zct_le (p := fun j => decide (f j ≤ wB σ.1 a m k)) a
                refine tX12_waits_146 (d := d + 39) zR0.w ⟨_, kX12_there ha3 (by omega) hJf (fun e he => by have := hfb e he; omega), fun _ => ?_, fun q => absurd (by rw [es]; exact nI_le h0 (by unfold zcl; omega)) q⟩
                rw [show (167 : Int32) = nI 167 from rfl, nI_add, zx_nI (by omega), now7 J hJ k hk, es]
                exact ⟨zv_in (by omega) (by decide), h2 G⟩
              · intro s hs ihs
                refine tX12_waits_146 (d := d + 39) zR0.w ⟨_, kX12_there ha3 (by omega) hJf (fun e he => by have := hfb e he; omega), fun q => ?_, fun _ => ?_⟩
                · exfalso
                  have zc := zct_le (p := fun j => decide (f j ≤ (wwt σ.1 a m k).1 + s)) a
                  have := (nI_leI (by omega) (by unfold zcl; omega)).mp q
                  rw [hcl _ (by omega), zcl_ge v1 hn1 hna] at this
                  omega
                · rw [nI_1, nI_1]; exact ihs
            refine tX12_waits_104 (d := d + 39) ⟨fun q => absurd q (by rw [now3 J hJ]; exact nI_ge hk (by omega)), fun _ => ?_⟩
            rw [show (167 : Int32) = nI 167 from rfl, nI_add, zx_nI (by omega), now7 J hJ k hk]
            refine ⟨zv_in (by omega) (by decide), fun q => ⟨zv_in (by omega) (by decide), ?_⟩, fun q => ?_⟩
            · have hz : σ.1 (167 + k) ≠ 0 := fun z => q (by rw [z]; rfl)
              rw [show max 1 (σ.1 (167 + k)) = σ.1 (167 + k) by omega] at wl
              exact wl
            · have hz : σ.1 (167 + k) = 0 := (nIc (c := 0) (by omega) (by decide)).mp q
              rw [hz] at wl
              exact wl
          · intro J g q hJ hJg hgb hq hav hrel
            have hq0 : q = 0 := by
              have : q + zcl a g (wB σ.1 a m k) ≤ zcl a g (wB σ.1 a m k) := hav
              omega
            subst hq0
            obtain ⟨J', h1, h2⟩ := ih J g hJ hJg (fun e he => by
              have := hgb e he
              show g e ≤ wB σ.1 a m k + 1 + 99
              omega) (fun M hM => by
              have hM : wB σ.1 a m k + 1 ≤ M := hM
              have r1 := hrel M (by omega)
              have r2 := zcl_rg (v := wB σ.1 a m k + m) (M := M) ha1 hkh hRlo (by omega) (σ.1 (167 + k)) (Nat.le_refl _)
              rw [hcl M (by omega), Nat.sub_zero] at r1
              show zcl a g M = zcl a (wrg a (wB σ.1 a m k + m) (wwt σ.1 a m k).2.1 (σ.1 (167 + k))) M
              omega)
            refine ⟨J', h1, fun G => tX12_waits_183 (d := d + 39) ⟨fun _ => ?_, fun y => absurd (nI_le (Nat.le_refl _) (by omega)) y⟩⟩
            rw [nI_1, nI_1]
            exact h2 G
          · intro e he ih2 J g q hJ hJg hgb hq hav hrel
            have mono : ∀ p : Nat → Bool, zct p (e + 1) ≤ zct p a := fun p => by
              have := zct_up (p := p) (j := e + 1) (a - (e + 1))
              rw [show e + 1 + (a - (e + 1)) = a by omega] at this
              exact this
            have hge := hgb e he
            by_cases hq0 : q = 0
            · subst hq0
              obtain ⟨J', h1, h2⟩ := ih2 J g 0 hJ hJg hgb hq (by have := mono (fun j => decide (g j ≤ wB σ.1 a m k)); unfold zcl; omega) hrel
              refine ⟨J', h1, fun G => tX12_waits_183 (d := d + 39) ⟨fun y => absurd y (nI_ge he (by omega)), fun _ => ⟨fun _ => by rw [nI_1]; exact h2 G, fun y => absurd (by decide) y⟩⟩⟩
            · have c0 : ¬ nI q ≤ (0 : Int32) := fun y => absurd ((nI_leI (b := 0) (by omega) (by decide)).mp y) (by omega)
              have cg : nI (wB σ.1 a m k) < nI (g e) ↔ wB σ.1 a m k < g e := nI_ltI (by omega) (by omega)
              by_cases hz : wB σ.1 a m k < g e
              · obtain ⟨J', h1, h2⟩ := ih2 J g q hJ hJg hgb hq (by rw [zct_f (p := fun j => decide (g j ≤ wB σ.1 a m k)) (decide_eq_false (by omega))]; exact hav) hrel
                refine ⟨J', h1, fun G => tX12_waits_183 (d := d + 39) ⟨fun y => absurd y (nI_ge he (by omega)), fun _ => ⟨fun y => absurd y c0, fun _ => ?_⟩⟩⟩
                rw [zx_nI (by omega), hJg e he, nI_1]
                exact ⟨zv_in (by omega) (by decide), fun _ => h2 G, fun y => absurd (cg.mpr hz) y⟩
              · have up : ∀ M, ∀ j, j ≠ e → decide ((if j = e then wB σ.1 a m k + m else g j) ≤ M) = decide (g j ≤ M) := fun M j hj => by rw [if_neg hj]
                have cu := fun M => zct_upd (p := fun j => decide (g j ≤ M)) (q := fun j => decide ((if j = e then wB σ.1 a m k + m else g j) ≤ M)) (up M) a he
                obtain ⟨q', rfl⟩ : ∃ q', q = q' + 1 := ⟨q - 1, by omega⟩
                obtain ⟨J', h1, h2⟩ := ih2 (zup J 73 e (nI (wB σ.1 a m k + m))) (fun j => if j = e then wB σ.1 a m k + m else g j) q' (hJ.up (by decide)) (fun j hj => by
                    rw [zup_self]
                    simp only [upd]
                    by_cases z : j = e
                    · rw [if_pos z, if_pos z]
                    · rw [if_neg z, if_neg z]; exact hJg j hj) (fun j hj => by
                    show (if j = e then _ else _) ≤ _
                    split
                    · omega
                    · exact hgb j hj) (by omega) (by
                    have c1 := cu (wB σ.1 a m k)
                    rw [if_pos (decide_eq_true (show g e ≤ wB σ.1 a m k by omega)), if_neg (by rw [if_pos rfl]; exact fun z => absurd (of_decide_eq_true z) (by omega))] at c1
                    rw [zct_f (p := fun j => decide ((if j = e then wB σ.1 a m k + m else g j) ≤ wB σ.1 a m k)) (by rw [if_pos rfl]; exact decide_eq_false (by omega)), zct_congr (p := fun j => decide ((if j = e then wB σ.1 a m k + m else g j) ≤ wB σ.1 a m k)) (q := fun j => decide (g j ≤ wB σ.1 a m k)) e (fun j hj => up _ j (by omega))]
                    simp only [zcl] at hav ⊢
                    omega) (fun M hM => by
                    have c1 := cu M
                    rw [if_pos (decide_eq_true (show g e ≤ M by omega)), if_pos rfl] at c1
                    have r1 := hrel M hM
                    simp only [zcl] at r1 ⊢
                    by_cases z : wB σ.1 a m k + m ≤ M
                    · rw [if_pos (decide_eq_true z)] at c1
                      rw [if_pos z] at r1 ⊢
                      omega
                    · rw [if_neg (fun y => z (of_decide_eq_true y))] at c1
                      rw [if_neg z] at r1 ⊢
                      omega)
                refine ⟨J', h1, fun G => tX12_waits_183 (d := d + 39) ⟨fun y => absurd y (nI_ge he (by omega)), fun _ => ⟨fun y => absurd y c0, fun _ => ?_⟩⟩⟩
                rw [zx_nI (by omega), hJg e he, nI_1, nIm1, nI_add]
                exact ⟨zv_in (by omega) (by decide), fun y => absurd (cg.mp y) hz, fun _ => ⟨zv_in (by omega) (by decide), h2 G⟩⟩
    · refine ⟨.int (-20), sNo σ, sc_no fun d b I L hc => ?_, sr_no fun d b I L hc => ?_, hi, Or.inl ⟨rfl, _, rfl⟩⟩
      · have hm3 : wmh σ.1 (σ.1 3) ≤ 3 := (wmh_le _).mpr hu3
        exact zCall.of okX11_waits (Nat.le_of_ble_eq_true rfl) ⟨Nat.le_refl _, Nat.le_refl _⟩ (fun G => tX11_waits_0 (d := d + 38) hc.1 zR0.w ⟨fun q => absurd (e1.mpr hv.1) q, fun _ => ⟨fun _ => ⟨_, kX4_mostHurt (d := d + 38) hc.1.hl hi.1 hc.2.1, fun q => absurd ((nI_leI (by omega) (by omega)).mp q) hf, fun _ => xNo _⟩, fun q => absurd (e3.mpr hv.2) q⟩⟩)
      · refine zCall.of okX12_waits (Nat.le_of_ble_eq_true rfl) ⟨Nat.le_refl _, Nat.le_refl _⟩ (fun G => tX12_waits_0 (d := d + 39) zR0.w ⟨fun q => absurd (r1.mpr hv.1) q, fun _ => ⟨fun _ => ?_, fun q => absurd (r3.mpr hv.2) q⟩⟩)
        refine z_for (n := σ.1 3) (P := fun k => (∀ j, j < k → σ.1 (167 + j) ≤ a) → zA G (d + 40) mX12_waits 36 [some (.ref 56), some (.int (nI a)), some (.int (nI m)), some (.int (nI k)), none, none, none, none, none] [] (zh b I L) _) ?_ ?_ 0 (Nat.zero_le _) (fun j hj => absurd hj (Nat.not_lt_zero j))
        · intro h
          exact absurd ((wmh_le _).mpr h) hf
        · intro k hk ih h
          have h3 := hu3 k hk
          refine tX12_waits_36 (d := d + 39) zR0.w ⟨fun q => absurd q (by rw [hc.1 3 (by decide)]; exact nI_ge hk (by omega)), fun _ => ?_⟩
          rw [show (167 : Int32) = nI 167 from rfl, nI_add, zx_nI (by omega), hc.1 _ (by omega), nI_1]
          refine ⟨zv_in (by omega) (by decide), fun q => ih (fun j hj => ?_), fun _ => ⟨_, _, kX12_refuseN, rfl⟩⟩
          by_cases z : j = k
          · subst z; exact (nI_leI (by omega) (by omega)).mp q
          · exact h j (by omega)
  · refine ⟨.int (-10), sBad σ, sc_bad fun d b I L hc => ?_, sr_bad fun d b I L hc => ?_, hi, Or.inl ⟨rfl, _, rfl⟩⟩
    · exact zCall.of okX11_waits (Nat.le_of_ble_eq_true rfl) ⟨Nat.le_refl _, Nat.le_refl _⟩ (fun G => tX11_waits_0 (d := d + 38) hc.1 zR0.w ⟨fun _ => xBad _, fun q1 => ⟨fun q3 => absurd ⟨e1.mp q1, e3.mp q3⟩ hv, fun _ => xBad _⟩⟩)
    · exact zCall.of okX12_waits (Nat.le_of_ble_eq_true rfl) ⟨Nat.le_refl _, Nat.le_refl _⟩ (fun G => tX12_waits_0 (d := d + 39) zR0.w ⟨fun _ => ⟨_, _, kX12_refuseB, rfl⟩, fun q1 => ⟨fun q3 => absurd ⟨r1.mp q1, r3.mp q3⟩ hv, fun _ => ⟨_, _, kX12_refuseB, rfl⟩⟩⟩)
