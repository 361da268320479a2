/-! how far apart: apart -/
section CONG
variable {w w' : zW} {i t : Nat}
theorem vL_c (hh : ∀ k, (k < 113 ∨ 119 ≤ k) → w' k = w k) : ∀ r, vL w' i r = vL w i r ∨ 6 ≤ i := by
  intro r
  by_cases z : 6 ≤ i
  · exact Or.inr z
  · refine Or.inl ?_
    induction r with
    | zero => exact hh _ (by omega)
    | succ r ih =>
      show wstp (w' 1) (vL w' i r) (w' (119 + 8 * i + r)) = wstp (w 1) (vL w i r) (w (119 + 8 * i + r))
      rw [ih, hh 1 (by omega), hh (119 + 8 * i + r) (by omega)]
theorem vL_c' (hh : ∀ k, (k < 113 ∨ 119 ≤ k) → w' k = w k) (hi : i < 6) (r : Nat) : vL w' i r = vL w i r := (vL_c hh r).elim id (fun z => absurd z (by omega))
theorem vO_c (hh : ∀ k, (k < 113 ∨ 119 ≤ k) → w' k = w k) (hi : i < 6) (r : Nat) : vO w' i t r = vO w i t r := by unfold vO; rw [hh (101 + i) (by omega)]
theorem vG_c (hh : ∀ k, (k < 113 ∨ 119 ≤ k) → w' k = w k) (hi : i < 6) {r : Nat} (hg : 53 + (6 * r + vL w i r) < 113) : vG w' i r = vG w i r := by unfold vG; rw [vL_c' hh hi, hh _ (by omega)]
theorem vS_c (hh : ∀ k, (k < 113 ∨ 119 ≤ k) → w' k = w k) (hi : i < 6) {r : Nat} (hg : 53 + (6 * r + vL w i r) < 113) : vS w' i r = vS w i r := by unfold vS; rw [vL_c' hh hi, hh _ (by omega)]
theorem vP_c (hh : ∀ k, (k < 113 ∨ 119 ≤ k) → w' k = w k) (hi : i < 6) : ∀ r, (∀ j, j < r → 53 + (6 * j + vL w i j) < 113) → vP w' i t r = vP w i t r := by
  intro r
  induction r with
  | zero => intro _; rfl
  | succ r ih =>
    intro hg
    show wpc (vO w' i t r) (vP w' i t r) (vS w' i r) (vG w' i r) r = wpc (vO w i t r) (vP w i t r) (vS w i r) (vG w i r) r
    rw [vO_c hh hi, vG_c hh hi (hg r (by omega)), vS_c hh hi (hg r (by omega)), ih (fun j hj => hg j (by omega))]
theorem vT_c (hh : ∀ k, (k < 113 ∨ 119 ≤ k) → w' k = w k) (hi : i < 6) : ∀ r, (∀ j, j < r → 53 + (6 * j + vL w i j) < 113) → vT w' i t r = vT w i t r := by
  intro r
  induction r with
  | zero => intro _; rfl
  | succ r ih =>
    intro hg
    show vT w' i t r + wtm (vO w' i t r) (vP w' i t (r + 1)) (vG w' i r) = vT w i t r + wtm (vO w i t r) (vP w i t (r + 1)) (vG w i r)
    rw [ih (fun j hj => hg j (by omega)), vO_c hh hi, vG_c hh hi (hg r (by omega)), vP_c hh hi (r + 1) (fun j hj => hg j (by omega))]
end CONG
/-- all set off so far apart -/
def wst (w : zW) (e n : Nat) : zW := fun k => if 113 ≤ k ∧ k < 113 + n then (k - 113) * e else w k
theorem wst_ne {w : zW} {e n k : Nat} (h : ¬ (113 ≤ k ∧ k < 113 + n)) : wst w e n k = w k := if_neg h
theorem wst_in {w : zW} {e n i : Nat} (h : i < n) : wst w e n (113 + i) = i * e := by
  unfold wst
  rw [if_pos (by omega), show 113 + i - 113 = i by omega]
theorem winv_st {w : zW} {e : Nat} (h : winv w) (he : e ≤ 99) : winv (wst w e (w 2)) := by
  obtain ⟨⟨w0, w1, w2, w3, w4⟩, a1, a2, a3, a4, a5⟩ := id h
  have n : ∀ k, k < 113 → wst w e (w 2) k = w k := fun k hk => wst_ne (by omega)
  have n' : ∀ k, 119 ≤ k → wst w e (w 2) k = w k := fun k hk => wst_ne (by omega)
  unfold winv
  rw [n 0 (by omega), n 1 (by omega), n 2 (by omega), n 3 (by omega), n 4 (by omega)]
  refine ⟨⟨w0, w1, w2, w3, w4⟩, fun c hc => ?_, fun c hc => ?_, fun i hi => ⟨?_, ?_, ?_, fun r hr => ?_⟩, fun k hk => ?_, fun k hk => ?_⟩
  · rw [n _ (by omega)]; exact a1 c hc
  · rw [n _ (by omega)]; exact a2 c hc
  · rw [n _ (by omega)]; exact (a3 i hi).1
  · rw [n _ (by omega)]; exact (a3 i hi).2.1
  · rw [wst_in hi]
    have : i * e ≤ 6 * 99 := Nat.mul_le_mul (by omega) he
    omega
  · rw [n' _ (by omega)]; exact (a3 i hi).2.2.2 r hr
  · rw [n' _ (by omega)]; exact a4 k hk
  · rw [n' _ (by omega)]; exact a5 k hk
theorem wmt_c {w w' : zW} {S S' : Nat → Nat} {i j : Nat} (hL : ∀ r, r ≤ w 0 → vL w' i r = vL w i r ∧ vL w' j r = vL w j r ∧ vT w' i 9 r = vT w i 9 r ∧ vT w' j 9 r = vT w j 9 r) (hi : S' i = S i) (hj : S' j = S j) : ∀ r, r ≤ w 0 → wmt w' S' i j r = wmt w S i j r := by
  intro r
  induction r with
  | zero => intro _; rfl
  | succ r ih =>
    intro hr
    show (wmt w' S' i j r || wm0 w' S' i j r) = (wmt w S i j r || wm0 w S i j r)
    rw [ih (by omega)]
    congr 1
    unfold wm0
    rw [hi, hj, (hL r (by omega)).1, (hL r (by omega)).2.1, (hL r (by omega)).2.2.1, (hL r (by omega)).2.2.2, (hL (r + 1) hr).2.2.1, (hL (r + 1) hr).2.2.2]
theorem rsum_c {f g : Nat → Nat → Bool} : ∀ n, (∀ i j, i < n → j < n → f i j = g i j) → rsum f n = rsum g n := by
  intro n
  induction n with
  | zero => intro _; rfl
  | succ n ih =>
    intro h
    show rsum f n + zct (f n) n = rsum g n + zct (g n) n
    rw [ih (fun i j hi hj => h i j (by omega) (by omega)), zct_congr n (fun j hj => h n j (by omega) (by omega))]
/-- some meet, so far apart -/
def wany (w : zW) (e : Nat) : Nat := rsum (fun i j => wmt w (fun i => i * e) i j (w 0)) (w 2)
theorem wany_st {w : zW} {e : Nat} (h : winv w) : rsum (fun i j => wmt (wst w e (w 2)) (fun i => wst w e (w 2) (113 + i)) i j (wst w e (w 2) 0)) (wst w e (w 2) 2) = wany w e := by
  have w2 := h.1.2.2.1
  have w0 := h.1.1
  have w1 := h.1.2.1
  unfold wany
  rw [wst_ne (k := 0) (by omega), wst_ne (k := 2) (by omega)]
  have hh : ∀ k, (k < 113 ∨ 119 ≤ k) → wst w e (w 2) k = w k := fun k hk => wst_ne (by omega)
  refine rsum_c _ (fun i j hi hj => wmt_c (i := i) (j := j) (S := fun i => i * e) (S' := fun i => wst w e (w 2) (113 + i)) (fun r hr => ?_) (wst_in hi) (wst_in hj) _ (Nat.le_refl _))
  have bi : ∀ k, k < r → 53 + (6 * k + vL w i k) < 113 := fun k hk => by have := vL_lt h hi k (by omega); omega
  have bj : ∀ k, k < r → 53 + (6 * k + vL w j k) < 113 := fun k hk => by have := vL_lt h hj k (by omega); omega
  exact ⟨vL_c' hh (by omega) r, vL_c' hh (by omega) r, vT_c hh (by omega) r bi, vT_c hh (by omega) r bj⟩
/-- the first that g says no to -/
def zfirst (g : Nat → Nat) : Nat → Nat → Int32
  | 0, _ => -1
  | f + 1, e => if g e = 0 then nI e else zfirst g f (e + 1)
theorem zfirst_s {g : Nat → Nat} {f e : Nat} : zfirst g (f + 1) e = if g e = 0 then nI e else zfirst g f (e + 1) := rfl
theorem kX11_any {d b e : Nat} {I : Nat → Nat → Int32} {L : Nat → Nat → Int64} {σ : zσ} (hc : zCl b I L σ) (hw : winv σ.1) (ha : wAll I σ.1 (σ.1 2)) (he : e ≤ 99) : zCall (d + 2) mX11_anyMeetWhenApart [.ref 0, .int (nI e)] (zh b I L) (some (.int (zB (decide (wany σ.1 e ≠ 0)))), zh b I L) := by
  obtain ⟨⟨w0, w1, w2, w3, w4⟩, -⟩ := id hw
  have e2 : I b 2 = nI (σ.1 2) := hc.2.1.1.2.2.1
  have e0 : I b 0 = nI (σ.1 0) := hc.2.1.1.1
  have ea : wany σ.1 e = csum (fun i j => wmt σ.1 (fun i => i * e) i j (σ.1 0)) (σ.1 2) (σ.1 2) := (csum_rsum (fun i j => wmt_sym _ _ _ _ _) _).symm
  refine zCall.of okX11_anyMeetWhenApart (Nat.le_of_ble_eq_true rfl) ⟨Nat.le_refl _, Nat.le_refl _⟩ (fun G => tX11_anyMeetWhenApart_0 ?_)
  refine z_for (n := σ.1 2) (P := fun i => csum (fun i j => wmt σ.1 (fun i => i * e) i j (σ.1 0)) (σ.1 2) i = 0 → zA G (d + 2) mX11_anyMeetWhenApart 2 [some (.ref 0), some (.int (nI e)), some (.int (nI i)), none] [] (zh b I L) (some (.int (zB (decide (wany σ.1 e ≠ 0)))), zh b I L)) ?_ ?_ 0 (Nat.zero_le _) rfl
  · intro hz
    rw [ea, hz]
    exact tX11_anyMeetWhenApart_2 hc.1 ⟨fun _ => rfl, fun q => absurd (by rw [e2]; exact nI_le (Nat.le_refl _) (by omega)) q⟩
  · intro i hi ih hz
    refine tX11_anyMeetWhenApart_2 hc.1 ⟨fun q => absurd q (by rw [e2]; exact nI_ge hi (by omega)), fun _ => ?_⟩
    rw [nI_1]
    refine z_for (n := σ.1 2) (P := fun j => i < j → zct (fun j => decide (i < j) && wmt σ.1 (fun i => i * e) i j (σ.1 0)) j = 0 → zA G (d + 2) mX11_anyMeetWhenApart 17 [some (.ref 0), some (.int (nI e)), some (.int (nI i)), some (.int (nI j))] [] (zh b I L) (some (.int (zB (decide (wany σ.1 e ≠ 0)))), zh b I L)) ?_ ?_ (i + 1) hi (Nat.lt_succ_self i) (zct_none (i + 1) (fun j hj => by rw [decide_eq_false (show ¬ i < j by omega)]; rfl))
    · intro _ hz2
      rw [show csum (fun i j => wmt σ.1 (fun i => i * e) i j (σ.1 0)) (σ.1 2) (i + 1) = csum (fun i j => wmt σ.1 (fun i => i * e) i j (σ.1 0)) (σ.1 2) i + zct (fun j => decide (i < j) && wmt σ.1 (fun i => i * e) i j (σ.1 0)) (σ.1 2) from rfl, hz, hz2] at ih
      exact tX11_anyMeetWhenApart_17 hc.1 zR0.w ⟨fun _ => by rw [nI_1]; exact ih rfl, fun q => absurd (by rw [e2]; exact nI_le (Nat.le_refl _) (by omega)) q⟩
    · intro j hj ih2 hij hz2
      have b1 : i * e ≤ 6 * 99 := Nat.mul_le_mul (by omega) he
      have b2 : j * e ≤ 6 * 99 := Nat.mul_le_mul (by omega) he
      refine tX11_anyMeetWhenApart_17 hc.1 zR0.w ⟨fun q => absurd q (by rw [e2]; exact nI_ge hj (by omega)), fun _ => ⟨wmt σ.1 (fun i => i * e) i j (σ.1 0), ?_, fun q => ?_, fun q => ?_⟩⟩
      · rw [pk_sub (by omega), pk_mul, e0]
        refine kX10_meet hw ha hi hj ?_ ⟨by omega, by omega⟩
        have : (j - i) * e = j * e - i * e := Nat.sub_mul j i e
        have h3 : i * e ≤ j * e := Nat.mul_le_mul_right e (by omega)
        rw [this, nI_toInt (by omega)]
        omega
      · rw [nI_1]
        refine ih2 (by omega) ?_
        rw [zct_f (p := fun j => decide (i < j) && wmt σ.1 (fun i => i * e) i j (σ.1 0)) (show (decide (i < j) && wmt σ.1 (fun i => i * e) i j (σ.1 0)) = false by rw [q, Bool.and_false])]
        exact hz2
      · have h1 := zct_t (p := fun j => decide (i < j) && wmt σ.1 (fun i => i * e) i j (σ.1 0)) (n := j) (show (decide (i < j) && wmt σ.1 (fun i => i * e) i j (σ.1 0)) = true by rw [q, decide_eq_true hij]; rfl)
        have h2 := zct_up (p := fun j => decide (i < j) && wmt σ.1 (fun i => i * e) i j (σ.1 0)) (j := j + 1) (σ.1 2 - (j + 1))
        rw [show j + 1 + (σ.1 2 - (j + 1)) = σ.1 2 by omega] at h2
        have h3 := csum_up (f := fun i j => wmt σ.1 (fun i => i * e) i j (σ.1 0)) (n := σ.1 2) (i := i + 1) (σ.1 2 - (i + 1))
        rw [show i + 1 + (σ.1 2 - (i + 1)) = σ.1 2 by omega] at h3
        have h4 : csum (fun i j => wmt σ.1 (fun i => i * e) i j (σ.1 0)) (σ.1 2) (i + 1) = csum (fun i j => wmt σ.1 (fun i => i * e) i j (σ.1 0)) (σ.1 2) i + zct (fun j => decide (i < j) && wmt σ.1 (fun i => i * e) i j (σ.1 0)) (σ.1 2) := rfl
        rw [decide_eq_true (show wany σ.1 e ≠ 0 by rw [ea]; omega)]
        rfl
/-- the reference, its starts set aside -/
def zap (I J : Nat → Nat → Int32) (w : zW) : Prop := (∀ a, (a ≠ 57 ∧ (a < 63 ∨ 73 < a)) → J a = I a) ∧ (∀ k, k < 463 → ¬ (113 ≤ k ∧ k < 113 + w 2) → J 57 k = nI (w k)) ∧ (∀ k, k < w 2 → J 69 k = nI (w (113 + k)))
def zapd (I J : Nat → Nat → Int32) (w : zW) : Prop := (∀ a, (a ≠ 57 ∧ (a < 63 ∨ 73 < a)) → J a = I a) ∧ (∀ k, k < 463 → J 57 k = nI (w k))
theorem zRf.apd {I J : Nat → Nat → Int32} {L : Nat → Nat → Int64} {σ : zσ} (h : zRf I L σ) (hd : zapd I J σ.1) : zRf J L σ := h.now hd.2 ⟨by rw [hd.1 56 (by omega)], fun i hi => hd.1 i (by omega)⟩
theorem zapd.lo {I J : Nat → Nat → Int32} {w : zW} (hd : zapd I J w) : zlo I J := fun i hi => hd.1 i (by omega)
theorem zap.u57 {I J : Nat → Nat → Int32} {w : zW} {k : Nat} {x : Int32} (h : zap I J w) (hk : k < w 2) : zap I (zup J 57 (113 + k) x) w := by
  obtain ⟨h1, h2, h3⟩ := h
  refine ⟨fun a ha => by rw [zup_ne (by omega)]; exact h1 a ha, fun j hj hn => ?_, fun j hj => by rw [zup_ne (by decide)]; exact h3 j hj⟩
  simp only [zup]
  rw [if_neg (by omega)]
  exact h2 j hj hn
theorem kX12_back {d b : Nat} {I : Nat → Nat → Int32} {L : Nat → Nat → Int64} {w : zW} (hw : winv w) (x : Int32) : ∀ J, zap I J w → ∃ J', zapd I J' w ∧ ∀ G, zA G (d + 6) mX12_apart 99 [some (.ref 56), some (.int x), some (.int 0), none] [] (zh b J L) (some (.int x), zh b J' L) := by
  obtain ⟨⟨w0, w1, w2, w3, w4⟩, -⟩ := id hw
  have key := z_for (n := w 2) (P := fun i => ∀ J, zap I J w → (∀ k, k < i → J 57 (113 + k) = nI (w (113 + k))) → ∃ J', zapd I J' w ∧ ∀ G, zA G (d + 6) mX12_apart 99 [some (.ref 56), some (.int x), some (.int (nI i)), none] [] (zh b J L) (some (.int x), zh b J' L)) ?_ ?_ 0 (Nat.zero_le _)
  · exact fun J hJ => key J hJ (fun k hk => absurd hk (Nat.not_lt_zero k))
  · intro J hJ hk
    have e2 : J 57 2 = nI (w 2) := hJ.2.1 2 (by decide) (by omega)
    refine ⟨J, ⟨hJ.1, fun k hk' => ?_⟩, fun G => tX12_apart_99 ⟨fun _ => rfl, fun q => absurd (by rw [e2]; exact nI_le (Nat.le_refl _) (by omega)) q⟩⟩
    by_cases z : 113 ≤ k ∧ k < 113 + w 2
    · have := hk (k - 113) (by omega)
      rw [show 113 + (k - 113) = k by omega] at this
      exact this
    · exact hJ.2.1 k hk' z
  · intro i hi ih J hJ hk
    have e2 : J 57 2 = nI (w 2) := hJ.2.1 2 (by decide) (by omega)
    obtain ⟨J', h1, h2⟩ := ih (zup J 57 (113 + i) (nI (w (113 + i)))) (hJ.u57 hi) (fun k hk' => by
      simp only [zup]
      by_cases z : k = i
      · subst z; simp
      · rw [if_neg (by omega)]; exact hk k (by omega))
    refine ⟨J', h1, fun G => tX12_apart_99 ⟨fun q => absurd q (by rw [e2]; exact nI_ge hi (by omega)), fun _ => ?_⟩⟩
    rw [show (113 : Int32) = nI 113 from rfl, nI_add, nI_1, zx_nI (by omega), zx_nI (by omega), hJ.2.2 i hi]
    exact ⟨zv_in (by omega) (by decide), zv_in (by omega) (by decide), h2 G⟩
theorem p_apart : zPair mX11_apart mX12_apart [] := by
  refine zPair.of fun σ hi => ?_
  obtain ⟨⟨hw0, hw1, hw2, hw3, hw4⟩, -⟩ := id hi.1
  refine ⟨.int (zfirst (wany σ.1) 100 0), σ, fun d b I L hc => ?_, fun d b I L hc => ?_, hi, Or.inl ⟨rfl, _, rfl⟩⟩
  · obtain ⟨J, h1, h2, h3⟩ := kX10_followAll (d := d + 34) (b := b) (L := L) hc.1.hl hi.1 hc.2.1
    have hc' := hc.w47 h1
    refine ⟨b, J, L, ?_, hc', h1.hi, zhiL.rf⟩
    refine zCall.of okX11_apart (Nat.le_of_ble_eq_true rfl) ⟨Nat.le_refl _, Nat.le_refl _⟩ (fun G => tX11_apart_0 (d := d + 34) zR0.w ⟨_, h3, ?_⟩)
    refine z_for (n := 100) (P := fun e => zfirst (wany σ.1) 100 0 = zfirst (wany σ.1) (100 - e) e → zA G (d + 40) mX11_apart 17 [some (.ref 0), some (.int (nI e))] [] (zh b J L) (some (.int (zfirst (wany σ.1) 100 0)), zh b J L)) ?_ ?_ 0 (Nat.zero_le _) rfl
    · intro ha
      rw [ha]
      exact tX11_apart_17 (d := d + 34) zR0.w ⟨fun _ => rfl, fun q => absurd (by decide) q⟩
    · intro e he ih ha
      rw [show 100 - e = (100 - (e + 1)) + 1 by omega, zfirst_s (f := 100 - (e + 1)) (e := e)] at ha
      refine tX11_apart_17 (d := d + 34) zR0.w ⟨fun q => absurd ((nI_ltI (a := 99) (by decide) (by omega)).mp q) (by omega), fun _ => ⟨_, kX11_any (d := d + 37) hc' hi.1 h2 (by omega), fun q => ?_, fun q => ?_⟩⟩
      · rw [if_neg (of_decide_eq_true q)] at ha
        rw [nI_1]; exact ih ha
      · rw [if_pos (Decidable.not_not.mp (of_decide_eq_false q))] at ha
        rw [ha]
  · have back := kX12_back (d := d + 34) (b := b) (I := I) (L := L) hi.1
    have e2 : ∀ J, zap I J σ.1 → J 57 2 = nI (σ.1 2) := fun J hJ => hJ.2.1 2 (by decide) (by omega)
    have loop := z_for (n := 100) (P := fun e => zfirst (wany σ.1) 100 0 = zfirst (wany σ.1) (100 - e) e → ∀ J, zap I J σ.1 → ∃ J', zapd I J' σ.1 ∧ ∀ G, zA G (d + 40) mX12_apart 37 [some (.ref 56), some (.int (-1)), some (.int (nI e)), none] [] (zh b J L) (some (.int (zfirst (wany σ.1) 100 0)), zh b J' L)) ?_ ?_ 0 (Nat.zero_le _) rfl
    · have copy := z_for (n := σ.1 2) (P := fun i => ∀ J, z63 I J → (∀ k, k < i → J 69 k = nI (σ.1 (113 + k))) → ∃ J', zapd I J' σ.1 ∧ ∀ G, zA G (d + 40) mX12_apart 2 [some (.ref 56), some (.int (nI i)), none, none] [] (zh b J L) (some (.int (zfirst (wany σ.1) 100 0)), zh b J' L)) ?_ ?_ 0 (Nat.zero_le _)
      · obtain ⟨J', h1, h2⟩ := copy I z63.rf (fun k hk => absurd hk (Nat.not_lt_zero k))
        exact ⟨J', L, zCall.of okX12_apart (Nat.le_of_ble_eq_true rfl) ⟨Nat.le_refl _, Nat.le_refl _⟩ (fun G => tX12_apart_0 (d := d + 34) (h2 G)), hc.apd h1, h1.lo, zloL.rf⟩
      · intro J hJ hk
        have e2' : J 57 2 = nI (σ.1 2) := hJ.now hc.1 2 (by decide)
        obtain ⟨J', h1, h2⟩ := loop J ⟨fun a ha => hJ a (by omega), fun k hk' _ => hJ.now hc.1 k hk', hk⟩
        exact ⟨J', h1, fun G => tX12_apart_2 (d := d + 34) ⟨fun _ => h2 G, fun q => absurd (by rw [e2']; exact nI_le (Nat.le_refl _) (by omega)) q⟩⟩
      · intro i hil ih J hJ hk
        have e2' : J 57 2 = nI (σ.1 2) := hJ.now hc.1 2 (by decide)
        obtain ⟨J', h1, h2⟩ := ih (zup J 69 i (nI (σ.1 (113 + i)))) (fun a ha => by rw [zup_ne (by omega)]; exact hJ a ha) (fun k hk' => by
          simp only [zup]
          by_cases z : k = i
          · subst z; simp
          · rw [if_neg (by omega)]; exact hk k (by omega))
        refine ⟨J', h1, fun G => tX12_apart_2 (d := d + 34) ⟨fun q => absurd q (by rw [e2']; exact nI_ge hil (by omega)), fun _ => ?_⟩⟩
        rw [show (113 : Int32) = nI 113 from rfl, nI_add, nI_1, zx_nI (by omega), zx_nI (by omega), hJ.now hc.1 _ (by omega)]
        exact ⟨zv_in (by omega) (by decide), zv_in (by omega) (by decide), h2 G⟩
    · intro ha J hJ
      obtain ⟨J', h1, h2⟩ := back (-1) J hJ
      rw [ha]
      exact ⟨J', h1, fun G => tX12_apart_37 (d := d + 34) ⟨fun _ => h2 G, fun q => absurd (by decide) q⟩⟩
    · intro e he ih ha J hJ
      rw [show 100 - e = (100 - (e + 1)) + 1 by omega, zfirst_s (f := 100 - (e + 1)) (e := e)] at ha
      have set := z_for (n := σ.1 2) (P := fun i => ∀ J, zap I J σ.1 → (∀ k, k < i → J 57 (113 + k) = nI (k * e)) → ∃ J', zapd I J' σ.1 ∧ ∀ G, zA G (d + 40) mX12_apart 50 [some (.ref 56), some (.int (-1)), some (.int (nI e)), some (.int (nI i))] [] (zh b J L) (some (.int (zfirst (wany σ.1) 100 0)), zh b J' L)) ?_ ?_ 0 (Nat.zero_le _)
      · obtain ⟨J', h1, h2⟩ := set J hJ (fun k hk => absurd hk (Nat.not_lt_zero k))
        exact ⟨J', h1, fun G => tX12_apart_37 (d := d + 34) ⟨fun q => absurd q (nI_ge (b := 100) (by omega) (by decide)), fun _ => ⟨fun q => absurd rfl q, fun _ => h2 G⟩⟩⟩
      · intro J hJ hk
        have now : ∀ k, k < 463 → J 57 k = nI (wst σ.1 e (σ.1 2) k) := fun k hk' => by
          by_cases z : 113 ≤ k ∧ k < 113 + σ.1 2
          · have := hk (k - 113) (by omega)
            rw [show 113 + (k - 113) = k by omega] at this
            rw [this]; unfold wst; rw [if_pos z]
          · rw [wst_ne z]; exact hJ.2.1 k hk' z
        obtain ⟨J1, g1, g2⟩ := kX12_meets (d := d + 34) (b := b) (L := L) (winv_st hi.1 (show e ≤ 99 by omega)) now
        rw [wany_st hi.1] at g2
        have hJ1 : zap I J1 σ.1 := ⟨fun a ha => (g1 a (by omega)).trans (hJ.1 a ha), fun k hk' z => by rw [g1 57 (by omega)]; exact hJ.2.1 k hk' z, fun k hk' => by rw [g1 69 (by omega)]; exact hJ.2.2 k hk'⟩
        have bd : wany σ.1 e ≤ 36 := by
          have h1 := csum_le (f := fun i j => wmt σ.1 (fun i => i * e) i j (σ.1 0)) (n := σ.1 2) (σ.1 2)
          rw [csum_rsum (fun i j => wmt_sym _ _ _ _ _)] at h1
          have h2 : σ.1 2 * σ.1 2 ≤ 6 * 6 := Nat.mul_le_mul hw2 hw2
          exact Nat.le_trans h1 h2
        by_cases z : wany σ.1 e = 0
        · rw [if_pos z] at ha
          obtain ⟨J', h1, h2⟩ := back (nI e) J1 hJ1
          refine ⟨J', h1, fun G => tX12_apart_50 (d := d + 34) zR0.w ⟨fun _ => ⟨_, _, g2, fun q => absurd (by rw [z]; rfl) q, fun _ => ?_⟩, fun q => absurd (by rw [e2 J hJ]; exact nI_le (Nat.le_refl _) (by omega)) q⟩⟩
          rw [ha]
          refine tX12_apart_37 (d := d + 34) ⟨fun _ => h2 G, fun _ => ⟨fun _ => h2 G, fun q => ?_⟩⟩
          have := congrArg Int32.toInt q
          rw [nI_toInt (by omega)] at this
          exact absurd this (by rw [show (-1 : Int32).toInt = -1 from rfl]; omega)
        · rw [if_neg z] at ha
          obtain ⟨J', h1, h2⟩ := ih ha J1 hJ1
          refine ⟨J', h1, fun G => tX12_apart_50 (d := d + 34) zR0.w ⟨fun _ => ⟨_, _, g2, fun _ => by rw [nI_1]; exact h2 G, fun q => absurd q (nI_ne0 (by omega) (by omega))⟩, fun q => absurd (by rw [e2 J hJ]; exact nI_le (Nat.le_refl _) (by omega)) q⟩⟩
      · intro i hil ih2 J hJ hk
        obtain ⟨J', h1, h2⟩ := ih2 (zup J 57 (113 + i) (nI (i * e))) (hJ.u57 hil) (fun k hk' => by
          simp only [zup]
          by_cases z : k = i
          · subst z; simp
          · rw [if_neg (by omega)]; exact hk k (by omega))
        refine ⟨J', h1, fun G => tX12_apart_50 (d := d + 34) zR0.w ⟨fun q => absurd q (by rw [e2 J hJ]; exact nI_ge hil (by omega)), fun _ => ?_⟩⟩
        rw [show (113 : Int32) = nI 113 from rfl, nI_add, nI_1, zx_nI (by omega), pk_mul]
        exact ⟨zv_in (by omega) (by decide), h2 G⟩
