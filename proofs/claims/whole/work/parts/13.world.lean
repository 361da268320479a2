/-! Math's two, and THE WORLD as both constructors leave it: 0 CheeseHill; 1, 10, 19, 28 the hills, each with its eight arrays behind it; 37 Kinds, 38 .. 42 the kinds; 43 Ways; 48 Guide; 50 Cheese; 53 Text; 55 backAt; 56 the reference, its arrays 57 .. 73 -/
theorem zu_max : Cond.code Lib.Math.max.name Lib.Math.max.code 2 (some .int) ∈ zU := zU_mem 788 (by decide +kernel) rfl
theorem zu_min : Cond.code Lib.Math.min.name Lib.Math.min.code 2 (some .int) ∈ zU := zU_mem 551 (by decide +kernel) rfl
section ZMATH
variable {G : zG} {d : Nat} {M : zM} {pc : Nat} {ls : List (Option Value)} {st : List Value} {h : zH} {R : zR}
theorem zi_max {ix : Nat} {x y : Int32} (hd : decode M.2.1 pc = .ok (.invokestatic ix, 3)) (hl : Cond.methodLink M.1.cls ix Lib.Math.max.name ∈ zU) (h1 : Cond.static Lib.Math.max.name ∈ zU) (hst : (st.map fun v => v.category).sum ≤ 8) (hR : h.1.1 ≤ R.2.1.1 ∧ h.1.2.1 ≤ R.2.1.2.1) (K : zA G (d + 1) M (pc + 3) ls (.int (if x < y then y else x) :: st) h R) : zA G (d + 1) M pc ls (.int y :: .int x :: st) h R := by
  intro p l e Rm s m args below meth c0 n0 s0 Q H locs LS C0 hn hH hS hL hQ
  refine va_mmax C0.1 C0.2.1 (C0.2.2.1.trans hL.1.symm) C0.2.2.2.1 (C0.2.2.2.2.1 _ hl) (C0.2.2.2.2.1 _ h1) (C0.2.2.2.2.1 _ u_19) (C0.2.2.2.2.1 _ zu_max) ?_ ?_ (by omega) (by omega) hd (K p l e Rm s m args below meth c0 n0 s0 Q H locs LS C0 hn hH hS hL hQ)
  · have := C0.2.2.2.2.2.2.2.1
    omega
  · rw [ztv_cats]
    have := C0.2.2.2.2.2.2.2.2
    omega
theorem zi_min {ix : Nat} {x y : Int32} (hd : decode M.2.1 pc = .ok (.invokestatic ix, 3)) (hl : Cond.methodLink M.1.cls ix Lib.Math.min.name ∈ zU) (h1 : Cond.static Lib.Math.min.name ∈ zU) (hst : (st.map fun v => v.category).sum ≤ 8) (hR : h.1.1 ≤ R.2.1.1 ∧ h.1.2.1 ≤ R.2.1.2.1) (K : zA G (d + 1) M (pc + 3) ls (.int (if y < x then y else x) :: st) h R) : zA G (d + 1) M pc ls (.int y :: .int x :: st) h R := by
  intro p l e Rm s m args below meth c0 n0 s0 Q H locs LS C0 hn hH hS hL hQ
  refine va_mmin C0.1 C0.2.1 (C0.2.2.1.trans hL.1.symm) C0.2.2.2.1 (C0.2.2.2.2.1 _ hl) (C0.2.2.2.2.1 _ h1) (C0.2.2.2.2.1 _ u_19) (C0.2.2.2.2.1 _ zu_min) ?_ ?_ (by omega) (by omega) hd (K p l e Rm s m args below meth c0 n0 s0 Q H locs LS C0 hn hH hS hL hQ)
  · have := C0.2.2.2.2.2.2.2.1
    omega
  · rw [ztv_cats]
    have := C0.2.2.2.2.2.2.2.2
    omega
/-- another state that shows the same -/
theorem zi_eqv {h' : zH} (hn' : h'.1.1 = h.1.1) (hs' : h'.1.2.1 = h.1.2.1) (he : ∀ i, i < h.1.1 → zce G h' i = zce G h i) (K : zA G d M pc ls st h' R) : zA G d M pc ls st h R := by
  intro p l e Rm s m args below meth c0 n0 s0 Q H locs LS C0 hn hH hS hL hQ
  have hw : zw G h' = zw G h := by
    unfold zw
    rw [hn']
    exact List.map_congr_left fun i hi => by rw [he i (List.mem_range.mp hi)]
  have KK := K p l e Rm s m args below meth c0 n0 s0 Q H locs LS C0 (by rw [hn', hs']; exact hn) ⟨by rw [hn']; exact hH.1, by rw [hw]; exact hH.2.1, by rw [hn']; exact hH.2.2⟩ hS hL hQ
  rw [hn', hs'] at KK
  exact KK
end ZMATH
theorem zCall.eqv {d : Nat} {M : zM} {av : List Value} {h : zH} {R R' : zR} (h0 : R'.1 = R.1) (hn : R'.2.1.1 = R.2.1.1) (hs : R'.2.1.2.1 = R.2.1.2.1) (he : ∀ (G : zG) (i : Nat), i < R.2.1.1 → zce G R'.2 i = zce G R.2 i) (K : zCall d M av h R') : zCall d M av h R := by
  have hw : ∀ G : zG, zw G R'.2 = zw G R.2 := by
    intro G
    unfold zw
    rw [hn]
    exact List.map_congr_left fun i hi => by rw [he G i (List.mem_range.mp hi)]
  have hq : ∀ G : zG, zQc G R' = zQc G R := by
    intro G
    funext a st o t
    unfold zQc zHr
    rw [h0, hn, hw]
  obtain ⟨k1, k2⟩ := K
  rw [hn, hs] at k1 k2
  refine ⟨k1, fun G l => ?_⟩
  rw [← hq]
  exact k2 G l
def zHL : List (Nat × Nat) := [(4, 13), (100, 48), (100, 48), (100, 6), (100, 6), (100, 6), (100, 48), (100, 8), (100, 288)]
def zShL : List (Nat × Nat) := (11, 15) :: (zHL ++ zHL ++ zHL ++ zHL ++ [(5, 5), (9, 0), (6, 0), (8, 0), (2, 0), (0, 0), (10, 4), (100, 54), (100, 54), (100, 54), (100, 54), (3, 1), (100, 1008), (1, 2), (100, 6), (100, 6), (7, 5), (100, 250), (100, 3), (12, 24), (100, 463), (100, 463), (100, 926), (101, 2), (100, 250), (100, 3), (100, 9), (100, 8), (100, 9), (100, 8), (100, 9), (100, 9), (100, 6), (100, 6), (100, 6), (100, 48), (100, 3)])
def zsh (i : Nat) : Nat × Nat := zShL.getD i (999, 0)
def zsl : Nat := (zShL.map fun q => q.2).sum
/-- the shape -/
def zS0 : zS := (74, zsl, zsh)
/-- the references: b is where the land is -/
def zF (b i k : Nat) : Value :=
  if i = 0 then (if k = 0 then .ref b else if k = 1 then .ref (11 - b) else if k = 2 then .ref 19 else if k = 3 then .ref 28 else if k = 4 then .ref 37 else if k = 5 then .ref 43 else if k = 6 then .ref 48 else if k = 7 then .ref 50 else if k = 8 then .ref 53 else .ref 55)
  else if i < 37 then .ref (i + k - 4)
  else if i = 37 then .ref (38 + k)
  else if i = 43 then .ref (44 + k)
  else if i = 48 then .ref 49
  else if i = 50 then .ref (51 + k)
  else if i = 53 then .ref 54
  else if k ≤ 4 then .ref (57 + k)
  else if k = 8 then .ref 62
  else .ref (50 + k)
/-- a state of this world -/
abbrev zh (b : Nat) (I : Nat → Nat → Int32) (L : Nat → Nat → Int64) : zH := (zS0, I, L, zF b)
/-- where a hill is -/
def zhl (q : Nat) : Prop := q = 1 ∨ q = 10 ∨ q = 19 ∨ q = 28
/-- where the land is -/
def zbl (b : Nat) : Prop := b = 1 ∨ b = 10
theorem zbl.hl {b : Nat} (h : zbl b) : zhl b := by rcases h with rfl | rfl <;> simp [zhl]
theorem zbl.sp {b : Nat} (h : zbl b) : zbl (11 - b) := by rcases h with rfl | rfl <;> simp [zbl]
theorem zhl.sh {q : Nat} (h : zhl q) : zsh q = (4, 13) := by rcases h with rfl | rfl | rfl | rfl <;> rfl
theorem zhl.s1 {q : Nat} (h : zhl q) : zsh (q + 1) = (100, 48) := by rcases h with rfl | rfl | rfl | rfl <;> rfl
theorem zhl.s2 {q : Nat} (h : zhl q) : zsh (q + 2) = (100, 48) := by rcases h with rfl | rfl | rfl | rfl <;> rfl
theorem zhl.s3 {q : Nat} (h : zhl q) : zsh (q + 3) = (100, 6) := by rcases h with rfl | rfl | rfl | rfl <;> rfl
theorem zhl.s4 {q : Nat} (h : zhl q) : zsh (q + 4) = (100, 6) := by rcases h with rfl | rfl | rfl | rfl <;> rfl
theorem zhl.s5 {q : Nat} (h : zhl q) : zsh (q + 5) = (100, 6) := by rcases h with rfl | rfl | rfl | rfl <;> rfl
theorem zhl.s6 {q : Nat} (h : zhl q) : zsh (q + 6) = (100, 48) := by rcases h with rfl | rfl | rfl | rfl <;> rfl
theorem zhl.s7 {q : Nat} (h : zhl q) : zsh (q + 7) = (100, 8) := by rcases h with rfl | rfl | rfl | rfl <;> rfl
theorem zhl.s8 {q : Nat} (h : zhl q) : zsh (q + 8) = (100, 288) := by rcases h with rfl | rfl | rfl | rfl <;> rfl
theorem zhl.lt {q : Nat} (h : zhl q) (k : Nat) (hk : k ≤ 8) : q + k < 74 := by rcases h with rfl | rfl | rfl | rfl <;> omega
theorem zhl.l0 {q : Nat} (h : zhl q) : q < 74 := by rcases h with rfl | rfl | rfl | rfl <;> omega
theorem zhl.f {q b : Nat} (h : zhl q) (k : Nat) : zF b q k = .ref (q + k - 4) := by rcases h with rfl | rfl | rfl | rfl <;> rfl
theorem zhl.f5 {q b : Nat} (h : zhl q) : zF b q 5 = .ref (q + 1) := by rcases h with rfl | rfl | rfl | rfl <;> rfl
theorem zhl.f6 {q b : Nat} (h : zhl q) : zF b q 6 = .ref (q + 2) := by rcases h with rfl | rfl | rfl | rfl <;> rfl
theorem zhl.f7 {q b : Nat} (h : zhl q) : zF b q 7 = .ref (q + 3) := by rcases h with rfl | rfl | rfl | rfl <;> rfl
theorem zhl.f8 {q b : Nat} (h : zhl q) : zF b q 8 = .ref (q + 4) := by rcases h with rfl | rfl | rfl | rfl <;> rfl
theorem zhl.f9 {q b : Nat} (h : zhl q) : zF b q 9 = .ref (q + 5) := by rcases h with rfl | rfl | rfl | rfl <;> rfl
theorem zhl.f10 {q b : Nat} (h : zhl q) : zF b q 10 = .ref (q + 6) := by rcases h with rfl | rfl | rfl | rfl <;> rfl
theorem zhl.f11 {q b : Nat} (h : zhl q) : zF b q 11 = .ref (q + 7) := by rcases h with rfl | rfl | rfl | rfl <;> rfl
theorem zhl.f12 {q b : Nat} (h : zhl q) : zF b q 12 = .ref (q + 8) := by rcases h with rfl | rfl | rfl | rfl <;> rfl
theorem zlt0 : ∀ i : Nat, i < 74 → i < zS0.1 := fun _ h => h
/-- room for what is called -/
def zR0 (R : zR) : Prop := 74 ≤ R.2.1.1 ∧ zsl ≤ R.2.1.2.1
theorem zR0.w {v : Option Value} {b : Nat} {I : Nat → Nat → Int32} {L : Nat → Nat → Int64} : zR0 (v, zh b I L) := ⟨Nat.le_refl _, Nat.le_refl _⟩
section ZG
variable {G : zG} {d : Nat} {M : zM} {pc : Nat} {ls : List (Option Value)} {st : List Value} {R : zR} {b : Nat} {I : Nat → Nat → Int32} {L : Nat → Nat → Int64}
theorem zg_iaload {i n : Nat} {j : Int32} (hd : decode M.2.1 pc = .ok (.iaload, 1)) (hs : zsh i = (100, n)) (hi : i < 74) (hj : vp_in j n) (K : zA G d M (pc + 1) ls (.int (I i (zx j)) :: st) (zh b I L) R) : zA G d M pc ls (.int j :: .ref i :: st) (zh b I L) R := zi_iaload (h := zh b I L) hd hs hi hj K
theorem zg_zaload {i n : Nat} {j : Int32} (hd : decode M.2.1 pc = .ok (.baload, 1)) (hs : zsh i = (101, n)) (hi : i < 74) (hj : vp_in j n) (K : zA G d M (pc + 1) ls (.int (I i (zx j)) :: st) (zh b I L) R) : zA G d M pc ls (.int j :: .ref i :: st) (zh b I L) R := zi_zaload (h := zh b I L) hd hs hi hj K
theorem zg_iastore {i n : Nat} {j x : Int32} (hd : decode M.2.1 pc = .ok (.iastore, 1)) (hs : zsh i = (100, n)) (hi : i < 74) (hj : vp_in j n) (K : zA G d M (pc + 1) ls st (zh b (zup I i (zx j) x) L) R) : zA G d M pc ls (.int x :: .int j :: .ref i :: st) (zh b I L) R := zi_iastore (h := zh b I L) hd hs hi hj K
theorem zg_zastore {i n : Nat} {j x : Int32} (hd : decode M.2.1 pc = .ok (.bastore, 1)) (hs : zsh i = (101, n)) (hi : i < 74) (hj : vp_in j n) (hx : vp_nar .boolean x = x) (K : zA G d M (pc + 1) ls st (zh b (zup I i (zx j) x) L) R) : zA G d M pc ls (.int x :: .int j :: .ref i :: st) (zh b I L) R := zi_zastore (h := zh b I L) hd hs hi hj hx K
theorem zg_alen {i n : Nat} (hd : decode M.2.1 pc = .ok (.arraylength, 1)) (hs : zsh i = (100, n)) (hi : i < 74) (K : zA G d M (pc + 1) ls (.int (nI n) :: st) (zh b I L) R) : zA G d M pc ls (.ref i :: st) (zh b I L) R := zi_arraylength (h := zh b I L) hd hs hi K
theorem zg_getI {ix i c k N : Nat} {C : String} {T : u_T} (hd : decode M.2.1 pc = .ok (.getfield ix, 3)) (hc : zCok c C T N) (hs : zsh i = (c, N)) (hi : i < 74) (hk : k < N) (hl : Cond.fieldLink M.1.cls ix (T k).1 (T k).2.1 (T k).2.2.1 ∈ zU) (hf : zfk c k = 0) (K : zA G d M (pc + 3) ls (.int (I i k) :: st) (zh b I L) R) : zA G d M pc ls (.ref i :: st) (zh b I L) R := zi_get (h := zh b I L) hd hc hs hi hk hl (by simp [zfA, hf]) K
theorem zg_getL {ix i c k N : Nat} {C : String} {T : u_T} (hd : decode M.2.1 pc = .ok (.getfield ix, 3)) (hc : zCok c C T N) (hs : zsh i = (c, N)) (hi : i < 74) (hk : k < N) (hl : Cond.fieldLink M.1.cls ix (T k).1 (T k).2.1 (T k).2.2.1 ∈ zU) (hf : zfk c k = 1) (K : zA G d M (pc + 3) ls (.long (L i k) :: st) (zh b I L) R) : zA G d M pc ls (.ref i :: st) (zh b I L) R := zi_get (h := zh b I L) hd hc hs hi hk hl (by simp [zfA, hf]) K
theorem zg_getF {ix i c k N : Nat} {C : String} {T : u_T} {v : Value} (hd : decode M.2.1 pc = .ok (.getfield ix, 3)) (hc : zCok c C T N) (hs : zsh i = (c, N)) (hi : i < 74) (hk : k < N) (hl : Cond.fieldLink M.1.cls ix (T k).1 (T k).2.1 (T k).2.2.1 ∈ zU) (hf : zfk c k = 2) (hv : zF b i k = v) (K : zA G d M (pc + 3) ls (v :: st) (zh b I L) R) : zA G d M pc ls (.ref i :: st) (zh b I L) R := zi_get (h := zh b I L) hd hc hs hi hk hl (by simp [zfA, hf, hv]) K
theorem zg_putI {ix i c k N : Nat} {C : String} {T : u_T} {x : Int32} (hd : decode M.2.1 pc = .ok (.putfield ix, 3)) (hc : zCok c C T N) (hs : zsh i = (c, N)) (hi : i < 74) (hk : k < N) (hl : Cond.fieldLink M.1.cls ix (T k).1 (T k).2.1 (T k).2.2.1 ∈ zU) (hf : (T k).2.2.2 = false) (ht : zty c k = .int) (K : zA G d M (pc + 3) ls st (zh b (zup I i k x) L) R) : zA G d M pc ls (.int x :: .ref i :: st) (zh b I L) R := zi_putI (h := zh b I L) hd hc hs hi hk hl hf ht K
theorem zg_putL {ix i c k N : Nat} {C : String} {T : u_T} {x : Int64} (hd : decode M.2.1 pc = .ok (.putfield ix, 3)) (hc : zCok c C T N) (hs : zsh i = (c, N)) (hi : i < 74) (hk : k < N) (hl : Cond.fieldLink M.1.cls ix (T k).1 (T k).2.1 (T k).2.2.1 ∈ zU) (hf : (T k).2.2.2 = false) (ht : zty c k = .long) (K : zA G d M (pc + 3) ls st (zh b I (zupL L i k x)) R) : zA G d M pc ls (.long x :: .ref i :: st) (zh b I L) R := zi_putL (h := zh b I L) hd hc hs hi hk hl hf ht K
theorem zg_copy {ix i j n0 n1 : Nat} {sp dp n : Int32} (hd : decode M.2.1 pc = .ok (.invokestatic ix, 3)) (hl : Cond.methodLink M.1.cls ix arraycopyName ∈ zU) (hi : i < 74) (hj : j < 74) (hsi : zsh i = (100, n0)) (hsj : zsh j = (100, n1)) (ho : (¬ sp < 0 ∧ ¬ dp < 0 ∧ ¬ n < 0) ∧ zx sp + zx n ≤ n0 ∧ zx dp + zx n ≤ n1) (hst : (st.map fun v => v.category).sum ≤ 8)
    (K : zA G (d + 1) M (pc + 3) ls st (zh b (zrow I j (va_cpy (I i) (I j) (zx sp) (zx dp) (zx n))) L) R) : zA G (d + 1) M pc ls (.int n :: .int dp :: .ref j :: .int sp :: .ref i :: st) (zh b I L) R := zi_copy (h := zh b I L) hd hl hi hj hsi hsj ho.1.1 ho.1.2.1 ho.1.2.2 ho.2.1 ho.2.2 hst K
theorem zg_max {ix : Nat} {x y : Int32} (hd : decode M.2.1 pc = .ok (.invokestatic ix, 3)) (hl : Cond.methodLink M.1.cls ix Lib.Math.max.name ∈ zU) (hst : (st.map fun v => v.category).sum ≤ 8) (hR : zR0 R) (K : zA G (d + 1) M (pc + 3) ls (.int (if x < y then y else x) :: st) (zh b I L) R) : zA G (d + 1) M pc ls (.int y :: .int x :: st) (zh b I L) R := zi_max (h := zh b I L) hd hl u_737 hst hR K
theorem zg_min {ix : Nat} {x y : Int32} (hd : decode M.2.1 pc = .ok (.invokestatic ix, 3)) (hl : Cond.methodLink M.1.cls ix Lib.Math.min.name ∈ zU) (hst : (st.map fun v => v.category).sum ≤ 8) (hR : zR0 R) (K : zA G (d + 1) M (pc + 3) ls (.int (if y < x then y else x) :: st) (zh b I L) R) : zA G (d + 1) M pc ls (.int y :: .int x :: st) (zh b I L) R := zi_min (h := zh b I L) hd hl u_500 hst hR K
end ZG
