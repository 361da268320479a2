/-! BUILDING THE WORLD: states with its first n cells; F of an object under way is null from field k on (zFk) -/
def zslN (n : Nat) : Nat := ((zShL.take n).map fun q => q.2).sum
abbrev zk (n : Nat) (I : Nat → Nat → Int32) (L : Nat → Nat → Int64) (F : Nat → Nat → Value) : zH := ((n, zslN n, zsh), I, L, F)
def zFk (i k : Nat) (F : Nat → Nat → Value) : Nat → Nat → Value := fun a b => if a = i ∧ k ≤ b then .null else F a b
theorem zFk_ne {i k a : Nat} {F : Nat → Nat → Value} (h : a ≠ i) : zFk i k F a = F a := by
  funext b
  simp [zFk, h]
theorem zFk_put {i k j : Nat} {F : Nat → Nat → Value} (h : F i k = .ref j) : zupF (zFk i k F) i k (.ref j) = zFk i (k + 1) F := by
  funext a b
  simp only [zupF, zFk]
  by_cases ha : a = i
  · subst ha
    by_cases hb : b = k
    · subst hb
      rw [if_pos ⟨rfl, rfl⟩, if_neg (fun q => absurd q.2 (by omega)), h]
    · rw [if_neg (fun q => hb q.2)]
      by_cases hc : k ≤ b
      · rw [if_pos ⟨rfl, hc⟩, if_pos ⟨rfl, by omega⟩]
      · rw [if_neg (fun q => hc q.2), if_neg (fun q => absurd q.2 (by omega))]
  · rw [if_neg (fun q => ha q.1), if_neg (fun q => ha q.1), if_neg (fun q => ha q.1)]
theorem zfk_or (c k : Nat) : zfk c k = 0 ∨ zfk c k = 1 ∨ zfk c k = 2 := by
  unfold zfk
  split
  · exact Or.inl rfl
  · exact Or.inr (Or.inl rfl)
  · exact Or.inr (Or.inr rfl)
theorem zce_any {G : zG} {h h' : zH} {i : Nat} (hs : h.1.2.2 i = zsh i) (hs' : h'.1.2.2 i = zsh i) (hI : h'.2.1 i = h.2.1 i) (hL : (zsh i).1 < 100 → ∀ k, k < (zsh i).2 → zfk (zsh i).1 k = 1 → h'.2.2.1 i k = h.2.2.1 i k) (hF : (zsh i).1 < 100 → ∀ k, k < (zsh i).2 → zfk (zsh i).1 k = 2 → h'.2.2.2 i k = h.2.2.2 i k) (hc : (zsh i).1 ≤ 101) : zce G h' i = zce G h i := by
  by_cases h1 : (zsh i).1 = 100
  · rw [zce_i (h := h') (n := (zsh i).2) (hs'.trans (Prod.ext h1 rfl)), zce_i (h := h) (n := (zsh i).2) (hs.trans (Prod.ext h1 rfl)), hI]
  · by_cases h2 : (zsh i).1 = 101
    · rw [zce_z (h := h') (n := (zsh i).2) (hs'.trans (Prod.ext h2 rfl)), zce_z (h := h) (n := (zsh i).2) (hs.trans (Prod.ext h2 rfl)), hI]
    · have h3 : (zsh i).1 < 100 := by omega
      rw [zce_o (h := h') (c := (zsh i).1) (n := (zsh i).2) hs' h3, zce_o (h := h) (c := (zsh i).1) (n := (zsh i).2) hs h3]
      congr 2
      refine List.map_congr_left fun k hk => ?_
      have hk' := List.mem_range.mp hk
      rcases zfk_or (zsh i).1 k with q | q | q
      · simp only [zfv, q, hI]
      · simp only [zfv, q, hL h3 k hk' q]
      · simp only [zfv, q, hF h3 k hk' q]
theorem zshc (i : Nat) (hi : i < 74) : (zsh i).1 ≤ 101 := by
  revert i
  decide +kernel
section ZBORN
variable {G : zG} {d : Nat} {M : zM} {pc : Nat} {ls : List (Option Value)} {st : List Value} {R : zR} {n : Nat} {I : Nat → Nat → Int32} {L : Nat → Nat → Int64} {F F' : Nat → Nat → Value}
theorem zn_eqv (hn : n ≤ 74) (h : ∀ a, a < n → ∀ k, k < (zsh a).2 → zfk (zsh a).1 k = 2 → F' a k = F a k) (K : zA G d M pc ls st (zk n I L F') R) : zA G d M pc ls st (zk n I L F) R :=
  zi_eqv (h := zk n I L F) (h' := zk n I L F') rfl rfl (fun i hi => zce_any (h := zk n I L F) (h' := zk n I L F') rfl rfl rfl (fun _ _ _ _ => rfl) (fun _ k hk hz => h i hi k hk hz) (zshc i (Nat.lt_of_lt_of_le hi hn))) K
theorem zn_skip {i a c N : Nat} (b : Nat) (hn : n ≤ 74) (hs : zsh i = (c, N)) (hab : a ≤ b) (h : ∀ k, k < b → a ≤ k → zfk c k ≠ 2) (K : zA G d M pc ls st (zk n I L (zFk i b F)) R) : zA G d M pc ls st (zk n I L (zFk i a F)) R := by
  refine zn_eqv hn (fun x hx k hk hz => ?_) K
  by_cases hx : x = i
  · subst hx
    rw [hs] at hz
    unfold zFk
    by_cases h1 : b ≤ k
    · rw [if_pos ⟨rfl, h1⟩, if_pos ⟨rfl, Nat.le_trans hab h1⟩]
    · have h2 : ¬ a ≤ k := fun q => h k (by omega) q hz
      rw [if_neg (fun q => h1 q.2), if_neg (fun q => h2 q.2)]
  · rw [zFk_ne hx, zFk_ne hx]
theorem zn_end {i a c N : Nat} (hn : n ≤ 74) (hs : zsh i = (c, N)) (h : ∀ k, k < N → a ≤ k → zfk c k ≠ 2) (K : zA G d M pc ls st (zk n I L F) R) : zA G d M pc ls st (zk n I L (zFk i a F)) R := by
  refine zn_eqv hn (fun x hx k hk hz => ?_) K
  by_cases hx : x = i
  · subst hx
    rw [hs] at hz hk
    have h2 : ¬ a ≤ k := fun q => h k hk q hz
    unfold zFk
    rw [if_neg (fun q => h2 q.2)]
  · rw [zFk_ne hx]
/-- an array comes -/
theorem zn_arr {at_ : ArrayType} {x : Int32} {N c : Nat} {ty : FieldType} (hd : decode M.2.1 pc = .ok (.newarray at_, 2)) (hty : newarray.typeOf at_ = ty) (hc : (c = 100 ∧ ty = .int) ∨ (c = 101 ∧ ty = .boolean)) (hl : Cond.arrayClass ty ∈ zU) (hn0 : ¬ x < 0) (hN : x.toNatClampNeg = N) (hN2 : N ≤ 100000) (hs : zsh n = (c, N)) (hz : n + 1 ≤ 74) (hsl : zslN (n + 1) = zslN n + N) (hI : ∀ k, I n k = 0) (hR : n + 1 ≤ R.2.1.1 ∧ zslN n + N ≤ R.2.1.2.1) (K : zA G d M (pc + 2) ls (.ref n :: st) (zk (n + 1) I L F) R) : zA G d M pc ls (.int x :: st) (zk n I L F) R := by
  refine zi_newarray (h := zk n I L F) (N := N) (c := c) (ty := ty) hd hty hc hl hn0 hN hN2 (by show n + 1 ≤ 1000; omega) hR ?_
  refine zi_eqv (h := zadd (zk n I L F) c N N) (h' := zk (n + 1) I L F) rfl hsl (fun i hi => ?_) K
  have hi : i < n + 1 := hi
  by_cases hin : i = n
  · subst hin
    have e1 : (zadd (zk i I L F) c N N).1.2.2 i = zsh i := by rw [hs]; simp [zadd]
    refine zce_any (h := zadd (zk i I L F) c N N) (h' := zk (i + 1) I L F) e1 rfl ?_ (fun q => ?_) (fun q => ?_) (zshc i hz)
    · funext k
      show I i k = _
      rw [hI]
      simp [zadd]
    · rw [hs] at q
      have q : c < 100 := q
      rcases hc with ⟨rfl, -⟩ | ⟨rfl, -⟩ <;> exact absurd q (by decide)
    · rw [hs] at q
      have q : c < 100 := q
      rcases hc with ⟨rfl, -⟩ | ⟨rfl, -⟩ <;> exact absurd q (by decide)
  · have hlt : i < n := by omega
    rw [zadd_old (h := zk n I L F) hlt]
    exact zce_congr rfl rfl rfl rfl
/-- an object comes -/
theorem zn_new {ix c N : Nat} {C : String} {T : u_T} (hd : decode M.2.1 pc = .ok (.new ix, 3)) (hc : zCok c C T N) (hl : Cond.classLink M.1.cls ix C ∈ zU) (h1 : Cond.instantiable C N ∈ zU) (h2 : Cond.initialized C ∈ zU) (hs : zsh n = (c, N)) (hz : n + 1 ≤ 74) (hsl : zslN (n + 1) = zslN n + N) (hI : ∀ k, I n k = 0) (hL : ∀ k, L n k = 0) (hR : n + 1 ≤ R.2.1.1 ∧ zslN n + N ≤ R.2.1.2.1) (K : zA G d M (pc + 3) ls (.ref n :: st) (zk (n + 1) I L (zFk n 0 F)) R) : zA G d M pc ls st (zk n I L F) R := by
  refine zi_new (h := zk n I L F) hd hc hl h1 h2 (by show n + 1 ≤ 1000; omega) hR ?_
  refine zi_eqv (h := zadd (zk n I L F) c N N) (h' := zk (n + 1) I L (zFk n 0 F)) rfl hsl (fun i hi => ?_) K
  have hi : i < n + 1 := hi
  by_cases hin : i = n
  · subst hin
    have e1 : (zadd (zk i I L F) c N N).1.2.2 i = zsh i := by rw [hs]; simp [zadd]
    refine zce_any (h := zadd (zk i I L F) c N N) (h' := zk (i + 1) I L (zFk i 0 F)) e1 rfl ?_ (fun _ k _ _ => ?_) (fun _ k _ _ => ?_) (zshc i hz)
    · funext k
      show I i k = _
      rw [hI]
      simp [zadd]
    · show L i k = _
      rw [hL]
      simp [zadd]
    · simp [zadd, zFk]
  · have hlt : i < n := by omega
    rw [zadd_old (h := zk n I L F) hlt]
    exact zce_congr rfl rfl rfl (zFk_ne hin)
/-- a reference is put into the object under way -/
theorem zn_put {ix i c k N j : Nat} {C : String} {T : u_T} (hd : decode M.2.1 pc = .ok (.putfield ix, 3)) (hc : zCok c C T N) (hs : zsh i = (c, N)) (hi : i < n) (hk : k < N) (hl : Cond.fieldLink M.1.cls ix (T k).1 (T k).2.1 (T k).2.2.1 ∈ zU) (hf : (T k).2.2.2 = false ∨ ((T k).2.2.2 = true ∧ M.1.name = "<init>" ∧ (T k).1 = M.1.cls)) (ht : zrt (zty c k) = true) (hF : F i k = .ref j) (K : zA G d M (pc + 3) ls st (zk n I L (zFk i (k + 1) F)) R) : zA G d M pc ls (.ref j :: .ref i :: st) (zk n I L (zFk i k F)) R := by
  refine zi_putF (h := zk n I L (zFk i k F)) hd hc hs hi hk hl hf ht ?_
  show zA G d M (pc + 3) ls st (zk n I L (zupF (zFk i k F) i k (.ref j))) R
  rw [zFk_put hF]
  exact K
end ZBORN
/-! Arrays.fill and layOut, in any world of this making -/
section ZFILLN
variable {d n : Nat} {I : Nat → Nat → Int32} {L : Nat → Nat → Int64} {F : Nat → Nat → Value}
theorem kfillN {a m : Nat} (ha : zsh a = (100, m)) (la : a < n) (hm : m < 2 ^ 30) (v : Int32) : zCall d mJ7_fill_53178 [.ref a, .int v] (zk n I L F) (none, zk n (zfill I a m v) L F) := by
  refine zCall.of okJ7_fill_53178 (Nat.le_of_ble_eq_true rfl) ⟨Nat.le_refl _, Nat.le_refl _⟩ (fun G => ?_)
  show zA G d mJ7_fill_53178 0 [some (.ref a), some (.int v), none, none] [] (zk n I L F) (none, zk n (zfill I a m v) L F)
  refine zi_iconst (v := 0) dJ7_fill_53178_0 (by decide) ?_
  refine zi_istore_n (ls' := [some (.ref a), some (.int v), some (.int 0), none]) dJ7_fill_53178_1 rfl (by decide) rfl ?_
  refine zi_aload_n dJ7_fill_53178_2 rfl rfl ?_
  refine zi_arraylength (h := zk n I L F) dJ7_fill_53178_3 ha la ?_
  refine zi_istore_n (ls' := [some (.ref a), some (.int v), some (.int 0), some (.int (nI m))]) dJ7_fill_53178_4 rfl (by decide) rfl ?_
  have h0 : zfill I a 0 v = I := by funext i k; simp [zfill]
  have key := z_for (n := m) (P := fun k => zA G d mJ7_fill_53178 5 [some (.ref a), some (.int v), some (.int (nI k)), some (.int (nI m))] [] (zk n (zfill I a k v) L F) (none, zk n (zfill I a m v) L F)) ?_ ?_ 0 (Nat.zero_le _)
  · simp only [h0] at key
    exact key
  · refine zi_iload_n dJ7_fill_53178_5 rfl rfl ?_
    refine zi_iload_n dJ7_fill_53178_6 rfl rfl ?_
    refine zi_icmp_ge (tgt := 20) dJ7_fill_53178_7 (by decide) (fun _ => zi_return dJ7_fill_53178_20 rfl) (fun q => absurd (nI_le (Nat.le_refl m) (by omega)) q)
  · intro k hk ih
    refine zi_iload_n dJ7_fill_53178_5 rfl rfl ?_
    refine zi_iload_n dJ7_fill_53178_6 rfl rfl ?_
    refine zi_icmp_ge (tgt := 20) dJ7_fill_53178_7 (by decide) (fun q => absurd q (nI_ge hk (by omega))) (fun _ => ?_)
    refine zi_aload_n dJ7_fill_53178_10 rfl rfl ?_
    refine zi_iload_n dJ7_fill_53178_11 rfl rfl ?_
    refine zi_iload_n dJ7_fill_53178_12 rfl rfl ?_
    refine zi_iastore (h := zk n (zfill I a k v) L F) dJ7_fill_53178_13 ha la (zv_in hk (by omega)) ?_
    refine zi_iinc (v := nI k + 1) (ls' := [some (.ref a), some (.int v), some (.int (nI k + 1)), some (.int (nI m))]) dJ7_fill_53178_14 rfl (by decide) rfl rfl ?_
    refine zi_goto (tgt := 5) dJ7_fill_53178_17 (by decide) ?_
    have e : zup (zfill I a k v) a (nI k).toNatClampNeg v = zfill I a (k + 1) v := by
      funext i j
      rw [show (nI k).toNatClampNeg = k from nI_clamp (by omega)]
      simp only [zup, zfill]
      repeat' split
      all_goals first | rfl | (exfalso; omega)
    show zA G d mJ7_fill_53178 5 [some (.ref a), some (.int v), some (.int (nI k + 1)), some (.int (nI m))] [] (zk n (zup (zfill I a k v) a (nI k).toNatClampNeg v) L F) (none, zk n (zfill I a m v) L F)
    rw [e, nI_1]
    exact ih
theorem klayN (hn : 10 ≤ n) (hF5 : F 1 5 = .ref 2) (hF6 : F 1 6 = .ref 3) (x1 x2 : Int32) : zCall (d + 1) mX4_layOut [.ref 1, .int x1, .int x2] (zk n I L F) (none, zk n (zlay I 1 x1 x2) L F) := by
  refine zCall.of okX4_layOut (Nat.le_of_ble_eq_true rfl) ⟨Nat.le_refl _, Nat.le_refl _⟩ (fun G => ?_)
  have h1 : 1 < n := by omega
  have h2 : 2 < n := by omega
  have h3 : 3 < n := by omega
  show zA G (d + 1) mX4_layOut 0 [some (.ref 1), some (.int x1), some (.int x2)] [] (zk n I L F) (none, zk n (zlay I 1 x1 x2) L F)
  refine zi_aload_n dX4_layOut_0 rfl rfl ?_
  refine zi_iload_n dX4_layOut_1 rfl rfl ?_
  refine zi_putI (h := zk n I L F) (k := 0) dX4_layOut_2 zc4 rfl h1 (Nat.le_of_ble_eq_true rfl) u_36 rfl rfl ?_
  refine zi_aload_n dX4_layOut_5 rfl rfl ?_
  refine zi_iload_n dX4_layOut_6 rfl rfl ?_
  refine zi_putI (h := zk n (zup I 1 0 x1) L F) (k := 1) dX4_layOut_7 zc4 rfl h1 (Nat.le_of_ble_eq_true rfl) u_42 rfl rfl ?_
  refine zi_aload_n dX4_layOut_10 rfl rfl ?_
  refine zi_iconst (v := 0) dX4_layOut_11 (by decide) ?_
  refine zi_putI (h := zk n (zup (zup I 1 0 x1) 1 1 x2) L F) (k := 2) dX4_layOut_12 zc4 rfl h1 (Nat.le_of_ble_eq_true rfl) u_47 rfl rfl ?_
  refine zi_aload_n dX4_layOut_15 rfl rfl ?_
  refine zi_iconst (v := 0) dX4_layOut_16 (by decide) ?_
  refine zi_putI (h := zk n (zup (zup (zup I 1 0 x1) 1 1 x2) 1 2 0) L F) (k := 3) dX4_layOut_17 zc4 rfl h1 (Nat.le_of_ble_eq_true rfl) u_50 rfl rfl ?_
  refine zi_aload_n dX4_layOut_20 rfl rfl ?_
  refine zi_iconst (v := 0) dX4_layOut_21 (by decide) ?_
  refine zi_putI (h := zk n (zup (zup (zup (zup I 1 0 x1) 1 1 x2) 1 2 0) 1 3 0) L F) (k := 4) dX4_layOut_22 zc4 rfl h1 (Nat.le_of_ble_eq_true rfl) u_52 rfl rfl ?_
  obtain ⟨J, hJ⟩ : ∃ J, J = zup (zup (zup (zup (zup I 1 0 x1) 1 1 x2) 1 2 0) 1 3 0) 1 4 0 := ⟨_, rfl⟩
  show zA G (d + 1) mX4_layOut 25 [some (.ref 1), some (.int x1), some (.int x2)] [] (zk n (zup (zup (zup (zup (zup I 1 0 x1) 1 1 x2) 1 2 0) 1 3 0) 1 4 0) L F) (none, zk n (zfill (zfill (zup (zup (zup (zup (zup I 1 0 x1) 1 1 x2) 1 2 0) 1 3 0) 1 4 0) 2 48 3) 3 48 0) L F)
  rw [← hJ]
  refine zi_aload_n dX4_layOut_25 rfl rfl ?_
  refine zi_get (h := zk n J L F) (k := 5) (v := .ref 2) dX4_layOut_26 zc4 rfl h1 (Nat.le_of_ble_eq_true rfl) u_54 hF5 ?_
  refine zi_iconst (v := 3) dX4_layOut_29 (by decide) ?_
  refine zi_callS (h := zk n J L F) (N := mJ7_fill_53178) (av := [.ref 2, .int 3]) (st := []) (R1 := (none, zk n (zfill J 2 48 3) L F)) dX4_layOut_30 okJ7_fill_53178 u_241 u_242 arJ7_fill_53178 rfl (Nat.le_of_ble_eq_true rfl) (kfillN (m := 48) rfl h2 (by decide) 3) ⟨Nat.le_refl _, Nat.le_refl _⟩ ?_
  show zA G (d + 1) mX4_layOut 33 [some (.ref 1), some (.int x1), some (.int x2)] [] (zk n (zfill J 2 48 3) L F) _
  refine zi_aload_n dX4_layOut_33 rfl rfl ?_
  refine zi_get (h := zk n (zfill J 2 48 3) L F) (k := 6) (v := .ref 3) dX4_layOut_34 zc4 rfl h1 (Nat.le_of_ble_eq_true rfl) u_59 hF6 ?_
  refine zi_iconst (v := 0) dX4_layOut_37 (by decide) ?_
  refine zi_callS (h := zk n (zfill J 2 48 3) L F) (N := mJ7_fill_53178) (av := [.ref 3, .int 0]) (st := []) (R1 := (none, zk n (zfill (zfill J 2 48 3) 3 48 0) L F)) dX4_layOut_38 okJ7_fill_53178 u_241 u_242 arJ7_fill_53178 rfl (Nat.le_of_ble_eq_true rfl) (kfillN (m := 48) rfl h3 (by decide) 0) ⟨Nat.le_refl _, Nat.le_refl _⟩ ?_
  exact zi_return dX4_layOut_41 rfl
end ZFILLN
