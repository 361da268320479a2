/-! bits; pairs: catchers, bale -/
def npc (n : Nat) : Nat := n % 2 + n / 2 % 2 + n / 4 % 2 + n / 8 % 2 + n / 16 % 2 + n / 32 % 2
theorem nlow : ∀ y, y < 64 → y ≠ 0 → nI y &&& (nI y - 1) = nI (y &&& (y - 1)) ∧ (y &&& (y - 1)) < y ∧ npc (y &&& (y - 1)) + 1 = npc y := by decide +kernel
theorem nor6 : ∀ a, a < 64 → ∀ l, l < 6 → nI a ||| ((1 : Int32) <<< (nI l &&& 31)) = nI (a ||| 2 ^ l) := by decide +kernel
theorem nIm1 (k : Nat) : nI (k + 1) + (-1) = nI k := by
  rw [← nI_1, Int32.add_assoc]
  show nI k + (1 + -1) = nI k
  rw [show (1 + -1 : Int32) = 0 from rfl, Int32.add_zero]
section BITS
variable {d b : Nat} {I : Nat → Nat → Int32} {L : Nat → Nat → Int64}
theorem kJ6_bitCount {x : Nat} (h : x < 64) : zCall d mJ6_bitCount_0f7a4 [.int (nI x)] (zh b I L) (some (.int (nI (npc x))), zh b I L) := by
  refine zCall.of okJ6_bitCount_0f7a4 (Nat.le_of_ble_eq_true rfl) ⟨Nat.le_refl _, Nat.le_refl _⟩ (fun G => tJ6_bitCount_0f7a4_0 ?_)
  refine congrArg (fun v : Int32 => ((some (Value.int v), zh b I L) : zR)) ?_
  revert x
  decide +kernel
theorem kX12_bits {x : Nat} (h : x < 64) : zCall d mX12_bits [.int (nI x)] (zh b I L) (some (.int (nI (npc x))), zh b I L) := by
  refine zCall.of okX12_bits (Nat.le_of_ble_eq_true rfl) ⟨Nat.le_refl _, Nat.le_refl _⟩ (fun G => tX12_bits_0 ?_)
  have key : ∀ n y c, y ≤ n → y < 64 → c + npc y = npc x → zA G d mX12_bits 4 [some (.int (nI x)), some (.int (nI c)), some (.int (nI y))] [] (zh b I L) (some (.int (nI (npc x))), zh b I L) := by
    intro n
    induction n with
    | zero =>
      intro y c hy _ hc
      have : y = 0 := Nat.le_zero.mp hy
      subst this
      exact tX12_bits_4 ⟨fun _ => by rw [← hc]; rfl, fun q => absurd rfl q⟩
    | succ n ih =>
      intro y c hy h64 hc
      refine tX12_bits_4 ⟨fun q => ?_, fun q => ?_⟩
      · have : y = 0 := by
          rcases Nat.eq_zero_or_pos y with z | z
          · exact z
          · exact absurd q (nI_ne0 z (by omega))
        subst this
        rw [← hc]; rfl
      · have hy0 : y ≠ 0 := fun z => q (by rw [z]; rfl)
        obtain ⟨e1, e2, e3⟩ := nlow y h64 hy0
        rw [e1, nI_1]
        exact ih _ _ (by omega) (by omega) (by omega)
  exact key x x 0 (Nat.le_refl _) h (Nat.zero_add _)
end BITS
/-- the lanes where someone comes down -/
def wnd (w : zW) : Nat → Nat
  | 0 => 0
  | i + 1 => wnd w i ||| 2 ^ (vL w i (w 0))
theorem wnd_lt {w : zW} (hw : winv w) : ∀ n, n ≤ w 2 → wnd w n < 2 ^ (w 1) := by
  intro n
  induction n with
  | zero => intro _; exact Nat.pow_pos (by decide)
  | succ n ih =>
    intro hn
    exact Nat.or_lt_two_pow (ih (by omega)) (Nat.pow_lt_pow_right (by decide) (vL_lt hw (by omega) _ (Nat.le_refl _)))
def ncov (N x : Nat) : Bool := decide ((nI N &&& (((nI x ||| (nI x <<< (1 &&& 31))) ||| (nI x >>> (1 &&& 31))) ^^^ (-1))) = 0)
def cdn (N : Nat) : Nat → Nat → Nat
  | 0, q => q
  | k + 1, q => cdn N k (if ncov N k = true then (if npc q < npc k then q else k) else q)
def rup (N : Nat) : Nat → Nat → Option Nat → Option Nat
  | 0, _, q => q
  | f + 1, x, q => rup N f (x + 1) (if ncov N x = true then (match q with | none => some x | some y => if npc y ≤ npc x then some y else some x) else q)
theorem cdn_rup : ∀ l, l < 7 → 1 ≤ l → ∀ N, N < 2 ^ l → rup N (2 ^ l) 0 none = some (cdn N (2 ^ l) (2 ^ l - 1)) := by decide +kernel
theorem npc_le (n : Nat) : npc n ≤ 6 := by unfold npc; omega
theorem p_catchers : zPair mX11_catchers mX12_catchers [] := by
  refine zPair.of fun σ hi => ?_
  obtain ⟨⟨hw0, hw1, hw2, hw3, hw4⟩, -⟩ := id hi.1
  have hN := wnd_lt hi.1 (σ.1 2) (Nat.le_refl _)
  have b2 : 2 ^ (σ.1 1) ≤ 64 := Nat.pow_le_pow_right (n := 2) (by decide) hw1.2
  have b0 : 1 ≤ 2 ^ (σ.1 1) := Nat.pow_pos (by decide)
  have hlt : ∀ n, n ≤ σ.1 2 → wnd σ.1 n < 64 := fun n hn => Nat.lt_of_lt_of_le (wnd_lt hi.1 n hn) b2
  refine ⟨.int (nI (cdn (wnd σ.1 (σ.1 2)) (2 ^ σ.1 1) (2 ^ σ.1 1 - 1))), σ, fun d b I L hc => ?_, fun d b I L hc => ?_, hi, Or.inl ⟨rfl, _, rfl⟩⟩
  · obtain ⟨J, h1, h2, h3⟩ := kX10_followAll (d := d + 34) (b := b) (L := L) hc.1.hl hi.1 hc.2.1
    have hc' := hc.w47 h1
    refine ⟨b, J, L, ?_, hc', h1.hi, zhiL.rf⟩
    have e2 : J b 2 = nI (σ.1 2) := hc'.2.1.1.2.2.1
    have e1 : J b 1 = nI (σ.1 1) := hc'.2.1.1.2.1
    have e0 : J b 0 = nI (σ.1 0) := hc'.2.1.1.1
    refine zCall.of okX11_catchers (Nat.le_of_ble_eq_true rfl) ⟨Nat.le_refl _, Nat.le_refl _⟩ (fun G => tX11_catchers_0 (d := d + 34) zR0.w ⟨_, h3, ?_⟩)
    have down : ∀ k q, k ≤ 64 → q < 64 → zA G (d + 40) mX11_catchers 77 [some (.ref 0), some (.int (nI (wnd σ.1 (σ.1 2)))), some (.int (nI (2 ^ σ.1 1 - 1))), some (.int (nI q)), some (.int (nI k + (-1))), none] [] (zh b J L) (some (.int (nI (cdn (wnd σ.1 (σ.1 2)) k q))), zh b J L) := by
      intro k
      induction k with
      | zero => intro q _ _; exact tX11_catchers_77 (d := d + 34) zR0.w ⟨fun _ => rfl, fun z => absurd (by decide) z⟩
      | succ k ih =>
        intro q hk hq
        rw [nIm1]
        refine tX11_catchers_77 (d := d + 34) zR0.w ⟨fun z => absurd z (by rw [Int32.lt_iff_toInt_lt, nI_toInt (by omega)]; exact fun y => absurd y (by rw [show (0 : Int32).toInt = 0 from rfl]; omega)), fun _ => ⟨fun z => ?_, fun z => ⟨_, kJ6_bitCount (by omega), _, kJ6_bitCount hq, fun y => ?_, fun y => ?_⟩⟩⟩
        · have : ncov (wnd σ.1 (σ.1 2)) k = false := decide_eq_false z
          simp only [cdn, this]
          exact ih q (by omega) hq
        · have h1 : ncov (wnd σ.1 (σ.1 2)) k = true := decide_eq_true z
          have hy : npc q < npc k := (nI_ltI (by have := npc_le q; omega) (by have := npc_le k; omega)).mp y
          simp only [cdn, h1, if_true, if_pos hy]
          exact ih q (by omega) hq
        · have h1 : ncov (wnd σ.1 (σ.1 2)) k = true := decide_eq_true z
          have hy : ¬ npc q < npc k := fun x => y ((nI_ltI (by have := npc_le q; omega) (by have := npc_le k; omega)).mpr x)
          simp only [cdn, h1, if_true, if_neg hy]
          exact ih k (by omega) (by omega)
    refine z_for (n := σ.1 2) (P := fun i => zA G (d + 40) mX11_catchers 19 [some (.ref 0), some (.int (nI (wnd σ.1 i))), some (.int (nI i)), none, none, none] [] (zh b J L) _) ?_ ?_ 0 (Nat.zero_le _)
    · refine tX11_catchers_19 (d := d + 34) hc.1 zR0.w ⟨fun _ => ?_, fun q => absurd (by rw [e2]; exact nI_le (Nat.le_refl _) (by omega)) q⟩
      have e : nI (2 ^ σ.1 1) - 1 = nI (2 ^ σ.1 1 - 1) := pk_sub (b := 1) b0
      have e' : nI (2 ^ σ.1 1 - 1) = nI (2 ^ σ.1 1) + (-1) := by rw [← e, Int32.sub_eq_add_neg]
      have := down (2 ^ σ.1 1) (2 ^ σ.1 1 - 1) b2 (by omega)
      rw [← e'] at this
      rw [e1, shl1 (by omega), e]
      exact this
    · intro i hil ih
      have hl := vL_lt hi.1 hil (σ.1 0) (Nat.le_refl _)
      refine tX11_catchers_19 (d := d + 34) hc.1 zR0.w ⟨fun q => absurd q (by rw [e2]; exact nI_ge hil (by omega)), fun _ => ?_⟩
      rw [e0, zwayC, zx_nI (by omega), (h2 i hil).1 _ (Nat.le_refl _), nor6 _ (hlt i (by omega)) _ (by omega), nI_1]
      exact ⟨zv_in (by omega) (by decide), ih⟩
  · have key := z_for (n := σ.1 2) (P := fun i => ∀ J, z63 I J → ∃ J', z63 I J' ∧ ∀ G, zA G (d + 40) mX12_catchers 4 [some (.ref 56), some (.int (nI (wnd σ.1 i))), some (.int (nI i)), none, none] [] (zh b J L) (some (.int (nI (cdn (wnd σ.1 (σ.1 2)) (2 ^ σ.1 1) (2 ^ σ.1 1 - 1)))), zh b J' L)) ?_ ?_ 0 (Nat.zero_le _)
    · obtain ⟨J', h1, h2⟩ := key I z63.rf
      exact ⟨J', L, zCall.of okX12_catchers (Nat.le_of_ble_eq_true rfl) ⟨Nat.le_refl _, Nat.le_refl _⟩ (fun G => tX12_catchers_0 (d := d + 36) (h2 G)), hc.w63 h1, h1.lo, zloL.rf⟩
    · intro J hJ
      have e2 : J 57 2 = nI (σ.1 2) := hJ.now hc.1 2 (by decide)
      have e1 : J 57 1 = nI (σ.1 1) := hJ.now hc.1 1 (by decide)
      refine ⟨J, hJ, fun G => tX12_catchers_4 (d := d + 36) zR0.w ⟨fun _ => ?_, fun q => absurd (by rw [e2]; exact nI_le (Nat.le_refl _) (by omega)) q⟩⟩
      have up : ∀ f x (q : Option Nat), x + f = 2 ^ σ.1 1 → (∀ y, q = some y → y < 64) → rup (wnd σ.1 (σ.1 2)) f x q = some (cdn (wnd σ.1 (σ.1 2)) (2 ^ σ.1 1) (2 ^ σ.1 1 - 1)) → zA G (d + 40) mX12_catchers 45 [some (.ref 56), some (.int (nI (wnd σ.1 (σ.1 2)))), some (.int (match q with | none => -1 | some y => nI y)), some (.int (nI x)), none] [] (zh b J L) (some (.int (nI (cdn (wnd σ.1 (σ.1 2)) (2 ^ σ.1 1) (2 ^ σ.1 1 - 1)))), zh b J L) := by
        intro f
        induction f with
        | zero =>
          intro x q hx hq hr
          have hr : q = some _ := hr
          subst hr
          exact tX12_catchers_45 (d := d + 36) zR0.w ⟨fun _ => rfl, fun z => absurd (by rw [e1, shl1 (by omega)]; exact nI_le (by omega) (by omega)) z⟩
        | succ f ih =>
          intro x q hx hq hr
          have go : ∀ q', (∀ y, q' = some y → y < 64) → rup (wnd σ.1 (σ.1 2)) f (x + 1) q' = some (cdn (wnd σ.1 (σ.1 2)) (2 ^ σ.1 1) (2 ^ σ.1 1 - 1)) → zA G (d + 40) mX12_catchers 45 [some (.ref 56), some (.int (nI (wnd σ.1 (σ.1 2)))), some (.int (match q' with | none => -1 | some y => nI y)), some (.int (nI x + 1)), none] [] (zh b J L) (some (.int (nI (cdn (wnd σ.1 (σ.1 2)) (2 ^ σ.1 1) (2 ^ σ.1 1 - 1)))), zh b J L) := fun q' h1 h2 => by
            rw [nI_1]; exact ih (x + 1) q' (by omega) h1 h2
          refine tX12_catchers_45 (d := d + 36) zR0.w ⟨fun z => absurd z (by rw [e1, shl1 (by omega)]; exact nI_ge (by omega) (by omega)), fun _ => ⟨fun z => ⟨fun _ => ?_, fun y => absurd rfl y⟩, fun z => ⟨fun y => absurd y (by decide), fun _ => ?_⟩⟩⟩
          · have h1 : ncov (wnd σ.1 (σ.1 2)) x = false := decide_eq_false z
            simp only [rup, h1] at hr
            exact go q hq hr
          · have h1 : ncov (wnd σ.1 (σ.1 2)) x = true := decide_eq_true z
            cases q with
            | none =>
              simp only [rup, h1, if_true] at hr
              exact ⟨fun _ => go (some x) (fun y hy => by injection hy; omega) hr, fun y => absurd rfl y⟩
            | some y =>
              have hy := hq y rfl
              refine ⟨fun u => ?_, fun _ => ⟨_, kX12_bits (by omega), _, kX12_bits hy, fun u => ?_, fun u => ?_⟩⟩
              · have := congrArg Int32.toInt u
                rw [show (match some y with | none => (-1 : Int32) | some y => nI y) = nI y from rfl, nI_toInt (by omega)] at this
                exact absurd this (by rw [show (-1 : Int32).toInt = -1 from rfl]; omega)
              · have hu : npc y ≤ npc x := (nI_leI (by have := npc_le y; omega) (by have := npc_le x; omega)).mp u
                simp only [rup, h1, if_true, if_pos hu] at hr
                exact go (some y) hq hr
              · have hu : ¬ npc y ≤ npc x := fun v => u ((nI_leI (by have := npc_le y; omega) (by have := npc_le x; omega)).mpr v)
                simp only [rup, h1, if_true, if_neg hu] at hr
                exact go (some x) (fun y hy => by injection hy; omega) hr
      exact up (2 ^ σ.1 1) 0 none (Nat.zero_add _) (fun y hy => by cases hy) (cdn_rup _ (by omega) hw1.1 _ hN)
    · intro i hil ih J hJ
      have e2 : J 57 2 = nI (σ.1 2) := hJ.now hc.1 2 (by decide)
      have hl := vL_lt hi.1 hil (σ.1 0) (Nat.le_refl _)
      have e0 : zwk J σ.1 i 9 (σ.1 0) 57 0 = nI (σ.1 0) := by rw [zwk_ne (by omega)]; exact hJ.now hc.1 0 (by decide)
      obtain ⟨J', h1, h2⟩ := ih (zwk J σ.1 i 9 (σ.1 0)) hJ.wk
      refine ⟨J', h1, fun G => tX12_catchers_4 (d := d + 36) zR0.w ⟨fun q => absurd q (by rw [e2]; exact nI_ge hil (by omega)), fun _ => ⟨_, kX12_walks (d := d + 36) hi.1 (hJ.now hc.1) hil, ?_⟩⟩⟩
      rw [e0, zx_nI (by omega), zwk_63 (Nat.le_refl _), nor6 _ (hlt i (by omega)) _ (by omega), nI_1]
      exact ⟨zv_in (by omega) (by decide), h2 G⟩
/-- the harm of all -/
def wha (w : zW) : Nat → Nat
  | 0 => 0
  | i + 1 => wha w i + vHs w i 9 (w 0)
section HARM
variable {d b : Nat} {I : Nat → Nat → Int32} {L : Nat → Nat → Int64}
theorem kX11_harmOfAll {σ : zσ} (hc : zCl b I L σ) (hw : winv σ.1) : ∃ J, z47 I J ∧ zCall (d + 5) mX11_harmOfAll [.ref 0] (zh b I L) (some (.int (nI (wha σ.1 (σ.1 2)))), zh b J L) := by
  obtain ⟨⟨w0, w1, w2, w3, w4⟩, -⟩ := id hw
  have key := z_for (n := σ.1 2) (P := fun i => ∀ J, z47 I J → ∃ J', z47 I J' ∧ ∀ G, zA G (d + 5) mX11_harmOfAll 4 [some (.ref 0), some (.int (nI (wha σ.1 i))), some (.int (nI i))] [] (zh b J L) (some (.int (nI (wha σ.1 (σ.1 2)))), zh b J' L)) ?_ ?_ 0 (Nat.zero_le _)
  · obtain ⟨J', h1, h2⟩ := key I z47.rf
    exact ⟨J', h1, zCall.of okX11_harmOfAll (Nat.le_of_ble_eq_true rfl) ⟨Nat.le_refl _, Nat.le_refl _⟩ (fun G => tX11_harmOfAll_0 (h2 G))⟩
  · intro J hJ
    have e2 : J b 2 = nI (σ.1 2) := (hc.w47 hJ).2.1.1.2.2.1
    exact ⟨J, hJ, fun G => tX11_harmOfAll_4 hc.1 zR0.w ⟨fun _ => rfl, fun q => absurd (by rw [e2]; exact nI_le (Nat.le_refl _) (by omega)) q⟩⟩
  · intro i hi ih J hJ
    have hc' := hc.w47 hJ
    have e2 : J b 2 = nI (σ.1 2) := hc'.2.1.1.2.2.1
    have one := (zfoot_one (I := J) (w := σ.1) (i := i) (t := 8)).n9 w0.2
    have e0 : zfoot J σ.1 i 8 b 0 = nI (σ.1 0) := (hc'.w47 zfoot_47).2.1.1.1
    obtain ⟨J', h1, h2⟩ := ih (zfoot J σ.1 i 8) hJ.fo
    refine ⟨J', h1, fun G => tX11_harmOfAll_4 hc.1 zR0.w ⟨fun q => absurd q (by rw [e2]; exact nI_ge hi (by omega)), fun _ => ⟨_, kX10_follow (t := 8) hc.1.hl hw hc'.2.1 hi (by omega), _, by rw [e0]; exact kX10_harmInAll one (by omega) w0.2, ?_⟩⟩⟩
    rw [nI_add, nI_1]
    exact h2 G
theorem kX12_harmOfAll {w : zW} (hw : winv w) (h : ∀ k, k < 463 → I 57 k = nI (w k)) : ∃ J, z63 I J ∧ zCall (d + 4) mX12_harmOfAll [.ref 56] (zh b I L) (some (.int (nI (wha w (w 2)))), zh b J L) := by
  obtain ⟨⟨w0, w1, w2, w3, w4⟩, -⟩ := id hw
  have key := z_for (n := w 2) (P := fun i => ∀ J, z63 I J → ∃ J', z63 I J' ∧ ∀ G, zA G (d + 4) mX12_harmOfAll 4 [some (.ref 56), some (.int (nI (wha w i))), some (.int (nI i))] [] (zh b J L) (some (.int (nI (wha w (w 2)))), zh b J' L)) ?_ ?_ 0 (Nat.zero_le _)
  · obtain ⟨J', h1, h2⟩ := key I z63.rf
    exact ⟨J', h1, zCall.of okX12_harmOfAll (Nat.le_of_ble_eq_true rfl) ⟨Nat.le_refl _, Nat.le_refl _⟩ (fun G => tX12_harmOfAll_0 (h2 G))⟩
  · intro J hJ
    have e2 : J 57 2 = nI (w 2) := hJ.now h 2 (by decide)
    exact ⟨J, hJ, fun G => tX12_harmOfAll_4 zR0.w ⟨fun _ => rfl, fun q => absurd (by rw [e2]; exact nI_le (Nat.le_refl _) (by omega)) q⟩⟩
  · intro i hi ih J hJ
    have e2 : J 57 2 = nI (w 2) := hJ.now h 2 (by decide)
    have e0 : zwk J w i 9 (w 0) 57 0 = nI (w 0) := by rw [zwk_ne (by omega)]; exact hJ.now h 0 (by decide)
    obtain ⟨J', h1, h2⟩ := ih (zwk J w i 9 (w 0)) hJ.wk
    refine ⟨J', h1, fun G => tX12_harmOfAll_4 zR0.w ⟨fun q => absurd q (by rw [e2]; exact nI_ge hi (by omega)), fun _ => ⟨_, kX12_walks hw (hJ.now h) hi, _, kX12_harm e0 (fun r hr => zwk_66 hr) w0.2, ?_⟩⟩⟩
    rw [nI_add, nI_1]
    exact h2 G
end HARM
/-- a bale in this cell: the harm of all -/
def wbh (w : zW) (r l : Nat) : Int32 := nI (wha (wset w (53 + (6 * r + l)) 3) (w 2))
def wbi (w : zW) (r : Nat) : Nat → Int32 × Int32 → Int32 × Int32
  | 0, s => s
  | l + 1, s => if (wbi w r l s).1 ≤ wbh w r l then wbi w r l s else (wbh w r l, 10 * nI r + nI l)
def wbo (w : zW) : Nat → Int32 × Int32
  | 0 => (nI (wha w (w 2)), -1)
  | r + 1 => wbi w r (w 1) (wbo w r)
theorem p_bale : zPair mX11_bale mX12_bale [] := by
  refine zPair.of fun σ hi => ?_
  obtain ⟨⟨hw0, hw1, hw2, hw3, hw4⟩, -⟩ := id hi.1
  refine ⟨.int (wbo σ.1 (σ.1 0)).2, σ, fun d b I L hc => ?_, fun d b I L hc => ?_, hi, Or.inl ⟨rfl, _, rfl⟩⟩
  · have hb := hc.1.lt44
    have key := z_for (n := σ.1 0) (P := fun r => ∀ J, z47 I J → ∃ J', z47 I J' ∧ ∀ G, zA G (d + 40) mX11_bale 9 [some (.ref 0), some (.int (wbo σ.1 r).1), some (.int (wbo σ.1 r).2), some (.int (nI r)), none, none, none] [] (zh b J L) (some (.int (wbo σ.1 (σ.1 0)).2), zh b J' L)) ?_ ?_ 0 (Nat.zero_le _)
    · obtain ⟨J1, g1, g2⟩ := kX11_harmOfAll (d := d + 34) hc hi.1
      obtain ⟨J', h1, h2⟩ := key J1 g1
      exact ⟨b, J', L, zCall.of okX11_bale (Nat.le_of_ble_eq_true rfl) ⟨Nat.le_refl _, Nat.le_refl _⟩ (fun G => tX11_bale_0 (d := d + 34) zR0.w ⟨_, _, g2, h2 G⟩), hc.w47 h1, h1.hi, zhiL.rf⟩
    · intro J hJ
      have e0 : J b 0 = nI (σ.1 0) := (hc.w47 hJ).2.1.1.1
      exact ⟨J, hJ, fun G => tX11_bale_9 (d := d + 34) hc.1 ⟨fun _ => rfl, fun q => absurd (by rw [e0]; exact nI_le (Nat.le_refl _) (by omega)) q⟩⟩
    · intro r hr ih J hJ
      have e0 : J b 0 = nI (σ.1 0) := (hc.w47 hJ).2.1.1.1
      have inner := z_for (n := σ.1 1) (P := fun l => ∀ J, z47 I J → ∃ J', z47 I J' ∧ ∀ G, zA G (d + 40) mX11_bale 23 [some (.ref 0), some (.int (wbi σ.1 r l (wbo σ.1 r)).1), some (.int (wbi σ.1 r l (wbo σ.1 r)).2), some (.int (nI r)), some (.int (nI l)), none, none] [] (zh b J L) (some (.int (wbo σ.1 (σ.1 0)).2), zh b J' L)) ?_ ?_ 0 (Nat.zero_le _)
      · obtain ⟨J', h1, h2⟩ := inner J hJ
        exact ⟨J', h1, fun G => tX11_bale_9 (d := d + 34) hc.1 ⟨fun q => absurd q (by rw [e0]; exact nI_ge hr (by omega)), fun _ => h2 G⟩⟩
      · intro J hJ
        have e1 : J b 1 = nI (σ.1 1) := (hc.w47 hJ).2.1.1.2.1
        obtain ⟨J', h1, h2⟩ := ih J hJ
        exact ⟨J', h1, fun G => tX11_bale_23 (d := d + 34) hc.1 zR0.w ⟨fun _ => by rw [nI_1]; exact h2 G, fun q => absurd (by rw [e1]; exact nI_le (Nat.le_refl _) (by omega)) q⟩⟩
      · intro l hl ih2 J hJ
        have hc' := hc.w47 hJ
        have e1 : J b 1 = nI (σ.1 1) := hc'.2.1.1.2.1
        have hcell : 6 * r + l < 48 := by omega
        have hcw : zCl b (zup J (b + 2) (6 * r + l) 3) L (wset σ.1 (53 + (6 * r + l)) 3, σ.2) := hc'.land (hr_ground hc'.2.1 hcell (fun k hk hk2 => by
            show zup J (b + 2) (6 * r + l) 3 (b + k) = J (b + k)
            rw [zup_ne (by omega)]) (by
            show zup J (b + 2) (6 * r + l) 3 (b + 2) = upd (J (b + 2)) (6 * r + l) (nI 3)
            rw [zup_self]; rfl)) (fun i h1 h2 => by rw [zup_ne (by omega)])
        obtain ⟨J1, g1, g2⟩ := kX11_harmOfAll (d := d + 34) hcw (hi.1.ground hcell (by decide))
        have e2 : wset σ.1 (53 + (6 * r + l)) 3 2 = σ.1 2 := by unfold wset; rw [if_neg (by omega)]
        have g2 : zCall (d + 34 + 5) mX11_harmOfAll [.ref 0] (zh b (zup J (b + 2) (6 * r + l) 3) L) (some (.int (wbh σ.1 r l)), zh b J1 L) := by
          have := g2
          simp only [e2] at this
          exact this
        have hJ2 : z47 I (zup J1 (b + 2) (6 * r + l) (J (b + 2) (6 * r + l))) := by
          intro i hi'
          by_cases z : i = b + 2
          · subst z
            rw [zup_self, g1 _ (by omega), zup_self]
            funext k
            simp only [upd]
            by_cases u : k = 6 * r + l
            · subst u; rw [if_pos rfl, hJ _ hi']
            · rw [if_neg u, if_neg u, hJ _ hi']
          · rw [zup_ne z, g1 i hi', zup_ne z, hJ i hi']
        obtain ⟨J', h1, h2⟩ := ih2 _ hJ2
        refine ⟨J', h1, fun G => tX11_bale_23 (d := d + 34) hc.1 zR0.w ⟨fun q => absurd q (by rw [e1]; exact nI_ge hl (by omega)), fun _ => ?_⟩⟩
        rw [zcellC, zx_nI (show 6 * r + l < 2 ^ 31 by omega), nI_1]
        refine ⟨zv_in hcell (by decide), zv_in hcell (by decide), _, _, g2, zv_in hcell (by decide), fun q => ?_, fun q => ?_⟩
        · have := h2 G
          simp only [wbi] at this
          rw [if_pos q] at this
          exact this
        · have := h2 G
          simp only [wbi] at this
          rw [if_neg q] at this
          exact this
  · have key := z_for (n := σ.1 0) (P := fun r => ∀ J, z63 I J → ∃ J', z63 I J' ∧ ∀ G, zA G (d + 40) mX12_bale 9 [some (.ref 56), some (.int (wbo σ.1 r).1), some (.int (wbo σ.1 r).2), some (.int (nI r)), none, none, none] [] (zh b J L) (some (.int (wbo σ.1 (σ.1 0)).2), zh b J' L)) ?_ ?_ 0 (Nat.zero_le _)
    · obtain ⟨J1, g1, g2⟩ := kX12_harmOfAll (d := d + 35) (b := b) (L := L) hi.1 hc.1
      obtain ⟨J', h1, h2⟩ := key J1 g1
      exact ⟨J', L, zCall.of okX12_bale (Nat.le_of_ble_eq_true rfl) ⟨Nat.le_refl _, Nat.le_refl _⟩ (fun G => tX12_bale_0 (d := d + 35) zR0.w ⟨_, _, g2, h2 G⟩), hc.w63 h1, h1.lo, zloL.rf⟩
    · intro J hJ
      have e0 : J 57 0 = nI (σ.1 0) := hJ.now hc.1 0 (by decide)
      exact ⟨J, hJ, fun G => tX12_bale_9 (d := d + 35) ⟨fun _ => rfl, fun q => absurd (by rw [e0]; exact nI_le (Nat.le_refl _) (by omega)) q⟩⟩
    · intro r hr ih J hJ
      have e0 : J 57 0 = nI (σ.1 0) := hJ.now hc.1 0 (by decide)
      have inner := z_for (n := σ.1 1) (P := fun l => ∀ J, z63 I J → ∃ J', z63 I J' ∧ ∀ G, zA G (d + 40) mX12_bale 22 [some (.ref 56), some (.int (wbi σ.1 r l (wbo σ.1 r)).1), some (.int (wbi σ.1 r l (wbo σ.1 r)).2), some (.int (nI r)), some (.int (nI l)), none, none] [] (zh b J L) (some (.int (wbo σ.1 (σ.1 0)).2), zh b J' L)) ?_ ?_ 0 (Nat.zero_le _)
      · obtain ⟨J', h1, h2⟩ := inner J hJ
        exact ⟨J', h1, fun G => tX12_bale_9 (d := d + 35) ⟨fun q => absurd q (by rw [e0]; exact nI_ge hr (by omega)), fun _ => h2 G⟩⟩
      · intro J hJ
        have e1 : J 57 1 = nI (σ.1 1) := hJ.now hc.1 1 (by decide)
        obtain ⟨J', h1, h2⟩ := ih J hJ
        exact ⟨J', h1, fun G => tX12_bale_22 (d := d + 35) zR0.w ⟨fun _ => by rw [nI_1]; exact h2 G, fun q => absurd (by rw [e1]; exact nI_le (Nat.le_refl _) (by omega)) q⟩⟩
      · intro l hl ih2 J hJ
        have e1 : J 57 1 = nI (σ.1 1) := hJ.now hc.1 1 (by decide)
        have hcell : 6 * r + l < 48 := by omega
        have ca : zca 1 (nI r) (nI l) = nI (53 + (6 * r + l)) := zcaR (a := 1) (by decide) r l
        obtain ⟨J1, g1, g2⟩ := kX12_harmOfAll (d := d + 35) (b := b) (L := L) (hi.1.ground hcell (v := 3) (by decide)) (zup_now (k := 53 + (6 * r + l)) (v := 3) (hJ.now hc.1))
        have e2 : wset σ.1 (53 + (6 * r + l)) 3 2 = σ.1 2 := by unfold wset; rw [if_neg (by omega)]
        have g2 : zCall (d + 35 + 4) mX12_harmOfAll [.ref 56] (zh b (zup J 57 (53 + (6 * r + l)) 3) L) (some (.int (wbh σ.1 r l)), zh b J1 L) := by
          have := g2
          simp only [e2] at this
          exact this
        have hJ2 : z63 I (zup J1 57 (53 + (6 * r + l)) (J 57 (53 + (6 * r + l)))) := by
          intro i hi'
          by_cases z : i = 57
          · subst z
            rw [zup_self, g1 _ (by omega), zup_self]
            funext k
            simp only [upd]
            by_cases u : k = 53 + (6 * r + l)
            · subst u; rw [if_pos rfl, hJ _ hi']
            · rw [if_neg u, if_neg u, hJ _ hi']
          · rw [zup_ne z, g1 i hi', zup_ne z, hJ i hi']
        obtain ⟨J', h1, h2⟩ := ih2 _ hJ2
        refine ⟨J', h1, fun G => tX12_bale_22 (d := d + 35) zR0.w ⟨fun q => absurd q (by rw [e1]; exact nI_ge hl (by omega)), fun _ => ?_⟩⟩
        rw [ca, zx_nI (show 53 + (6 * r + l) < 2 ^ 31 by omega), nI_1]
        refine ⟨zv_in (by omega) (by decide), zv_in (by omega) (by decide), _, _, g2, zv_in (by omega) (by decide), fun q => ?_, fun q => ?_⟩
        · have := h2 G
          simp only [wbi] at this
          rw [if_pos q] at this
          exact this
        · have := h2 G
          simp only [wbi] at this
          rw [if_neg q] at this
          exact this
