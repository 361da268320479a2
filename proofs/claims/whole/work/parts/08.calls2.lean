/-! RULES: new arrays, Object.<init>, the script, calls -/
section ZCALL2
variable {G : zG} {d : Nat} {M : zM} {pc : Nat} {ls : List (Option Value)} {st : List Value} {h : zH} {R : zR}
theorem zi_newarray {at_ : ArrayType} {n : Int32} {N c : Nat} {ty : FieldType} (hd : decode M.2.1 pc = .ok (.newarray at_, 2)) (hty : newarray.typeOf at_ = ty) (hc : (c = 100 ∧ ty = .int) ∨ (c = 101 ∧ ty = .boolean)) (hl : Cond.arrayClass ty ∈ zU) (hn0 : ¬ n < 0) (hN : n.toNatClampNeg = N) (hN2 : N ≤ 100000) (hz : h.1.1 + 1 ≤ 1000) (hR : h.1.1 + 1 ≤ R.2.1.1 ∧ h.1.2.1 + N ≤ R.2.1.2.1) (K : zA G d M (pc + 2) ls (.ref h.1.1 :: st) (zadd h c N N) R) : zA G d M pc ls (.int n :: st) h R := by
  intro p l e Rm s m args below meth c0 n0 s0 Q H locs LS C0 hn hH hS hL hQ
  subst hty
  have hb : N * componentBytes (newarray.typeOf at_) ≤ 536870912 := by
    have : componentBytes (newarray.typeOf at_) ≤ 8 := by cases at_ <;> decide
    calc N * componentBytes (newarray.typeOf at_) ≤ N * 8 := Nat.mul_le_mul_left _ this
      _ ≤ 536870912 := by omega
  refine va_newaK C0.1 C0.2.1 (C0.2.2.2.2.1 _ hl) rfl hd rfl hn0 hN hb (by omega) (by omega) hH.1 fun H1 cA e1 z1 o1 hAr hNm => ?_
  have hk : ∀ (k : Nat) (x : Nat × va_E), (zw G h)[k]? = some x → H1[x.1]? = H[x.1]? := fun k x hx => o1 x.1 (by rw [← hH.1]; exact (hH.2.1 k x hx).lt)
  have hI : (zadd h c N N).2.1 h.1.1 = fun _ => 0 := by funext b; simp [zadd]
  have hP1 : va_P G.2.2.1 vwCl (zw G h ++ [(G.1 + h.1.1, zce G (zadd h c N N) h.1.1)]) H1 := by
    refine (hH.2.1.kept hk).app (fun k x hx => ?_)
    have hz : k < 1 := (List.getElem?_eq_some_iff.mp hx).1
    rw [show k = 0 by omega] at hx
    cases hx
    rcases hc with ⟨rfl, hty⟩ | ⟨rfl, hty⟩
    · have hA : cA = G.2.1.1 := by
        have h1 := (C0.2.2.2.2.2.1.1.2 0 _ rfl).2
        have h2 : s.vm.findClass ("[" ++ FieldType.int.toString) = some G.2.1.1 := h1
        rw [hty] at hNm
        exact Option.some.inj (hNm.symm.trans h2)
      rw [zce_i (h := zadd h 100 N N) (n := N) (by simp [zadd]), hI]
      show H1[G.1 + h.1.1]? = some (vp_cell _ _)
      rw [e1, hA, hty]
      rfl
    · have hA : cA = G.2.1.2 := by
        have h1 := (C0.2.2.2.2.2.1.1.2 1 _ rfl).2
        have h2 : s.vm.findClass ("[" ++ FieldType.boolean.toString) = some G.2.1.2 := h1
        rw [hty] at hNm
        exact Option.some.inj (hNm.symm.trans h2)
      rw [zce_z (h := zadd h 101 N N) (n := N) (by simp [zadd]), hI]
      show H1[G.1 + h.1.1]? = some (vp_cell _ _)
      rw [e1, hA, hty]
      rfl
  rw [zw_push (h' := zadd h c N N) rfl rfl (fun j hj => zadd_old hj)] at hP1
  have hS1 : va_S (zO G) s.heap H1 locs := ⟨Nat.le_trans hS.1 (by rw [z1, hH.1]; omega), fun x g1 g2 => (o1 x (by rw [← hH.1]; exact Nat.lt_of_lt_of_le g1 hS.1)).trans (hS.2.1 x g1 g2), hS.2.2⟩
  have KK := K p l e Rm s m args below meth c0 n0 s0 Q H1 locs LS C0 ⟨hn.1, Nat.le_succ_of_le hn.2.1, Nat.le_trans hn.2.2.1 (Nat.le_add_right _ _), hn.2.2.2⟩ ⟨by rw [z1]; show _ = G.1 + (h.1.1 + 1); omega, hP1, hz⟩ hS1 hL hQ
  have e2 : (zadd h c N N).1.1 - n0 = h.1.1 - n0 + 1 := by show h.1.1 + 1 - n0 = _; omega
  have e3 : (zadd h c N N).1.2.1 - s0 = h.1.2.1 - s0 + N := by show h.1.2.1 + N - s0 = _; omega
  rw [e2, e3, List.map_cons, ztv_lt (by omega)] at KK
  exact KK
/-- Object.<init> -/
theorem zi_objInit {ix i : Nat} (hd : decode M.2.1 pc = .ok (.invokespecial ix, 3)) (hl : Cond.methodLink M.1.cls ix Lib.objectInit ∈ zU) (h1 : Cond.instanceMethod Lib.objectInit ∈ zU) (h2 : Cond.code Lib.objectInit ⟨#[0xb1]⟩ 1 none ∈ zU) (hst : (st.map fun v => v.category).sum ≤ 8) (K : zA G (d + 1) M (pc + 3) ls st h R) : zA G (d + 1) M pc ls (.ref i :: st) h R := by
  intro p l e Rm s m args below meth c0 n0 s0 Q H locs LS C0 hn hH hS hL hQ
  refine W.objInit (a := zad G i) (rest := st.map (ztv G)) C0.1 C0.2.1 C0.2.2.2.1 (C0.2.2.2.2.1 _ hl) (C0.2.2.2.2.1 _ h1) (C0.2.2.2.2.1 _ h2) rfl (hL.1.trans C0.2.2.1.symm) rfl hd ?_ ?_ (K p l e Rm s m args below meth c0 n0 s0 Q H locs LS C0 hn hH hS hL hQ)
  · have := C0.2.2.2.2.2.2.2.1
    omega
  · rw [ztv_cats]
    have := C0.2.2.2.2.2.2.2.2
    show 2 * 0 + _ + 12 ≤ _
    omega
/-- behind a call: the world that the callee leaves -/
theorem z_cont {G : zG} {p : Program} {l : Launch} {e : Env} {Rm : Room} {s : State} {m : MethodId} {args : Array Value} {below : List Frame} {meth : Method} {c : Code} {H : Heap} {locs : List Loc} {cells slots mc ms : Nat} {Q : State → Prop} {LS : Array Slot} {st0 rest : List Value} {a : Array Value} {R1 : zR}
    (hr : va_Run p l e Rm s m args below meth c H locs cells slots mc ms (F0 m pc LS st0) rest (zQc G R1 a) (zO G)) (hS : va_S (zO G) s.heap H locs)
    (kk : ∀ (H1 : Heap) (locs1 : List Loc), zHr G R1.2 H1 → va_S (zO G) s.heap H1 locs1 → W p l e Rm s m args below meth c H1 locs1 (cells + mc) (slots + ms) Q (F0 m (pc + 3) LS ((R1.1.map (ztv G)).toList ++ rest))) : W p l e Rm s m args below meth c H locs cells slots Q (F0 m pc LS st0) := by
  intro T hT X
  obtain ⟨v, st₀, t, T', L, h0, X', hL, e1, e2, ⟨hv, hH1, hz, hk⟩, sp⟩ := hr T hT X
  have hv2 : v = R1.1.map (ztv G) := by injection hv
  subst hv2
  rw [h0] at hz hk
  obtain ⟨t2, a1, b1⟩ := kk T'.heap (locs ++ L) (by rw [e1]; exact hH1)
    ⟨Nat.le_trans hS.1 (by rw [e1]; exact hz), fun q h1 h2 => by rw [e1, hk q (Nat.lt_of_lt_of_le h1 hS.1) h2]; exact hS.2.1 q h1 h2, fun q hq => by
      rcases List.mem_append.mp hq with h | h
      · exact hS.2.2 q h
      · exact hL q h⟩ T' rfl X'
  exact ⟨t2, sp t2 a1, b1⟩
/-- what all calls share: the rest of the frame behind the call -/
theorem z_rest {G : zG} {p : Program} {l : Launch} {e : Env} {Rm : Room} {s : State} {m : MethodId} {args : Array Value} {below : List Frame} {meth : Method} {c : Code} {n0 s0 : Nat} {Q : State → Prop} {LS : Array Slot} {R1 : zR} {H1 : Heap} {locs1 : List Loc} (hm : h.1.1 ≤ R1.2.1.1 ∧ h.1.2.1 ≤ R1.2.1.2.1) (K : zA G (d + 1) M (pc + 3) ls (R1.1.toList ++ st) R1.2 R) (C0 : zC G (d + 1) M p Rm s m args meth c) (hn : s.heap.size = G.1 + n0 ∧ n0 ≤ h.1.1 ∧ s0 ≤ h.1.2.1 ∧ R.2.1.1 - n0 ≤ Rm.cells ∧ R.2.1.2.1 - s0 ≤ Rm.slots) (hH1 : zHr G R1.2 H1) (hS1 : va_S (zO G) s.heap H1 locs1) (hL : zLr G ls M.2.2.1 LS) (hQ : zRet G M R p l e Rm s m args below meth c n0 s0 Q) :
    W p l e Rm s m args below meth c H1 locs1 (h.1.1 - n0 + (R1.2.1.1 - h.1.1)) (h.1.2.1 - s0 + (R1.2.1.2.1 - h.1.2.1)) Q (F0 m (pc + 3) LS ((R1.1.map (ztv G)).toList ++ st.map (ztv G))) := by
  have KK := K p l e Rm s m args below meth c n0 s0 Q H1 locs1 LS C0 ⟨hn.1, Nat.le_trans hn.2.1 hm.1, Nat.le_trans hn.2.2.1 hm.2, hn.2.2.2⟩ hH1 hS1 hL hQ
  have e1 : h.1.1 - n0 + (R1.2.1.1 - h.1.1) = R1.2.1.1 - n0 := by omega
  have e2 : h.1.2.1 - s0 + (R1.2.1.2.1 - h.1.2.1) = R1.2.1.2.1 - s0 := by omega
  have e3 : (R1.1.toList ++ st).map (ztv G) = (R1.1.map (ztv G)).toList ++ st.map (ztv G) := by
    rw [List.map_append]
    cases R1.1 <;> rfl
  rw [e1, e2, ← e3]
  exact KK
/-- how many arguments a method takes -/
def zar (N : zM) (n : Nat) : Prop := (parseMethodDescriptor N.1.desc).map (fun d => d.parameters.length) = some n
theorem z_pre {G : zG} {s : State} {H : Heap} {locs : List Loc} {av : List Value} (hH : zHr G h H) (hS : va_S (zO G) s.heap H locs) (hK : zK G s) : PreS s H (zPc G av h) (av.map (ztv G)) :=
  ⟨zPc_blind, fun U hU hW => ⟨rfl, by rw [hU]; exact hH, hK.kept hS hU hW⟩⟩
/-- a static method -/
theorem zi_callS {ix : Nat} {N : zM} {av stk : List Value} {R1 : zR} (hd : decode M.2.1 pc = .ok (.invokestatic ix, 3)) (hN : zMok N) (hl : Cond.methodLink M.1.cls ix N.1 ∈ zU) (h1 : Cond.static N.1 ∈ zU) (hn1 : zar N av.length) (hstk : stk = av.reverse ++ st) (hst : (st.map fun v => v.category).sum ≤ 8) (hc : zCall d N av h R1) (hR : R1.2.1.1 ≤ R.2.1.1 ∧ R1.2.1.2.1 ≤ R.2.1.2.1) (K : zA G (d + 1) M (pc + 3) ls (R1.1.toList ++ st) R1.2 R) : zA G (d + 1) M pc ls stk h R := by
  intro p l e Rm s m args below meth c0 n0 s0 Q H locs LS C0 hn hH hS hL hQ
  subst hstk
  have hm := hc.1
  have hr := va_runS (As := av.map (ztv G)) (rest := st.map (ztv G)) (n := av.length) (g := F0 m pc LS ((av.reverse ++ st).map (ztv G))) (below := below) (meth := meth) (e := e) (cells := h.1.1 - n0) (slots := h.1.2.1 - s0) (locs := locs) (H := H) ⟨C0.1, C0.2.1, C0.2.2.1, C0.2.2.2.1, C0.2.2.2.2.1⟩ (hc.2 G l) ⟨callB_of (bytes := N.2.1) (maxL := N.2.2.1) (ret := N.2.2.2) (own := M.1.cls) (index := ix) av.length C0.2.2.2.2.1 (zGood hN) rfl rfl rfl (C0.2.2.2.2.1 _ hN.2.2.1) (C0.2.2.2.2.1 _ hl) ⟨hN.2.2.2.1.1, hN.2.2.2.1.2, hn1⟩ ⟨by show d + 1 ≤ _; exact C0.2.2.2.2.2.2.2.1, by show 8 + (_ + 11) + 64 * d ≤ _; have := C0.2.2.2.2.2.2.2.2; have := hN.2.2.2.2; omega⟩, C0.2.2.2.2.1 _ h1⟩ (z_pre hH hS C0.2.2.2.2.2.1) rfl (by simp) hL.1 (by show _ = _; rw [List.map_append, List.map_reverse]) (by rw [ztv_cats]; show 2 * 0 + _ ≤ 8; omega) hd ⟨by omega, by omega⟩
  exact z_cont hr hS (fun H1 locs1 hH1 hS1 => z_rest hm K C0 hn hH1 hS1 hL hQ)
/-- a private static method of a nest mate -/
theorem zi_callSN {ix : Nat} {N : zM} {av stk : List Value} {R1 : zR} (hd : decode M.2.1 pc = .ok (.invokestatic ix, 3)) (hN : zMok N) (hl : (M.1.cls, ix, N.1) ∈ zNest) (h1 : Cond.static N.1 ∈ zU) (hn1 : zar N av.length) (hstk : stk = av.reverse ++ st) (hst : (st.map fun v => v.category).sum ≤ 8) (hc : zCall d N av h R1) (hR : R1.2.1.1 ≤ R.2.1.1 ∧ R1.2.1.2.1 ≤ R.2.1.2.1) (K : zA G (d + 1) M (pc + 3) ls (R1.1.toList ++ st) R1.2 R) : zA G (d + 1) M pc ls stk h R := by
  intro p l e Rm s m args below meth c0 n0 s0 Q H locs LS C0 hn hH hS hL hQ
  subst hstk
  have hm := hc.1
  have hr := va_runSN (As := av.map (ztv G)) (rest := st.map (ztv G)) (n := av.length) (g := F0 m pc LS ((av.reverse ++ st).map (ztv G))) (below := below) (meth := meth) (e := e) (cells := h.1.1 - n0) (slots := h.1.2.1 - s0) (locs := locs) (H := H) ⟨C0.1, C0.2.1, C0.2.2.1, C0.2.2.2.1, C0.2.2.2.2.1⟩ (hc.2 G l) ⟨va_cnB (bytes := N.2.1) (maxL := N.2.2.1) (ret := N.2.2.2) (own := M.1.cls) (index := ix) (host := "CheeseHill") av.length C0.2.2.2.2.1 (zGood hN) rfl rfl rfl (C0.2.2.2.2.2.1.2.1 _ hl) (C0.2.2.2.2.1 _ hN.2.2.1) ⟨hN.2.2.2.1.1, hN.2.2.2.1.2, hn1⟩ ⟨by show d + 1 ≤ _; exact C0.2.2.2.2.2.2.2.1, by show 8 + (_ + 11) + 64 * d ≤ _; have := C0.2.2.2.2.2.2.2.2; have := hN.2.2.2.2; omega⟩, C0.2.2.2.2.1 _ h1, trivial⟩ (z_pre hH hS C0.2.2.2.2.2.1) rfl (by simp) hL.1 (by show _ = _; rw [List.map_append, List.map_reverse]) (by rw [ztv_cats]; show 2 * 0 + _ ≤ 8; omega) hd ⟨by omega, by omega⟩
  exact z_cont hr hS (fun H1 locs1 hH1 hS1 => z_rest hm K C0 hn hH1 hS1 hL hQ)
/-- a constructor, of a nest mate's too -/
theorem zi_callI {ix i : Nat} {N : zM} {av stk : List Value} {R1 : zR} (hd : decode M.2.1 pc = .ok (.invokespecial ix, 3)) (hN : zMok N) (hl : Cond.methodLink M.1.cls ix N.1 ∈ zU) (h1 : Cond.instanceMethod N.1 ∈ zU) (hnm : N.1.name = "<init>") (hrt : N.2.2.2 = none) (hn1 : zar N av.length) (hi : i < h.1.1) (hstk : stk = av.reverse ++ .ref i :: st) (hst : (st.map fun v => v.category).sum ≤ 8) (hc : zCall d N (.ref i :: av) h R1) (hR : R1.2.1.1 ≤ R.2.1.1 ∧ R1.2.1.2.1 ≤ R.2.1.2.1) (K : zA G (d + 1) M (pc + 3) ls (R1.1.toList ++ st) R1.2 R) : zA G (d + 1) M pc ls stk h R := by
  intro p l e Rm s m args below meth c0 n0 s0 Q H locs LS C0 hn hH hS hL hQ
  subst hstk
  obtain ⟨N1, N2, N3, N4⟩ := N
  cases hrt
  have hm := hc.1
  have hr := va_runI (b := zad G i) (As := av.map (ztv G)) (rest := st.map (ztv G)) (n := av.length) (g := F0 m pc LS ((av.reverse ++ .ref i :: st).map (ztv G))) (below := below) (meth := meth) (e := e) (cells := h.1.1 - n0) (slots := h.1.2.1 - s0) (locs := locs) (H := H) ⟨C0.1, C0.2.1, C0.2.2.1, C0.2.2.2.1, C0.2.2.2.2.1⟩ (hc.2 G l) ⟨callB_of (bytes := N2) (maxL := N3) (ret := none) (own := M.1.cls) (index := ix) av.length C0.2.2.2.2.1 (zGood hN) rfl rfl rfl (C0.2.2.2.2.1 _ hN.2.2.1) (C0.2.2.2.2.1 _ hl) ⟨hN.2.2.2.1.1, hN.2.2.2.1.2, hn1⟩ ⟨by show d + 1 ≤ _; exact C0.2.2.2.2.2.2.2.1, by show 8 + (_ + 11) + 64 * d ≤ _; have := C0.2.2.2.2.2.2.2.2; have : N3 + 19 ≤ 64 := hN.2.2.2.2; omega⟩, hnm, C0.2.2.2.2.1 _ h1⟩ (z_pre (av := .ref i :: av) hH hS C0.2.2.2.2.2.1) rfl (by simp) hL.1 (by show _ = _; rw [List.map_append, List.map_reverse]; rfl) (by rw [ztv_cats]; show 2 * 0 + _ ≤ 8; omega) hd ⟨by omega, by omega⟩
  exact z_cont hr hS (fun H1 locs1 hH1 hS1 => z_rest hm K C0 hn hH1 hS1 hL hQ)
theorem zi_callIN {ix i : Nat} {N : zM} {av stk : List Value} {R1 : zR} (hd : decode M.2.1 pc = .ok (.invokespecial ix, 3)) (hN : zMok N) (hl : (M.1.cls, ix, N.1) ∈ zNest) (h1 : Cond.instanceMethod N.1 ∈ zU) (hnm : N.1.name = "<init>") (hrt : N.2.2.2 = none) (hn1 : zar N av.length) (hi : i < h.1.1) (hstk : stk = av.reverse ++ .ref i :: st) (hst : (st.map fun v => v.category).sum ≤ 8) (hc : zCall d N (.ref i :: av) h R1) (hR : R1.2.1.1 ≤ R.2.1.1 ∧ R1.2.1.2.1 ≤ R.2.1.2.1) (K : zA G (d + 1) M (pc + 3) ls (R1.1.toList ++ st) R1.2 R) : zA G (d + 1) M pc ls stk h R := by
  intro p l e Rm s m args below meth c0 n0 s0 Q H locs LS C0 hn hH hS hL hQ
  subst hstk
  obtain ⟨N1, N2, N3, N4⟩ := N
  cases hrt
  have hm := hc.1
  have hr := va_runIN (b := zad G i) (As := av.map (ztv G)) (rest := st.map (ztv G)) (n := av.length) (g := F0 m pc LS ((av.reverse ++ .ref i :: st).map (ztv G))) (below := below) (meth := meth) (e := e) (cells := h.1.1 - n0) (slots := h.1.2.1 - s0) (locs := locs) (H := H) ⟨C0.1, C0.2.1, C0.2.2.1, C0.2.2.2.1, C0.2.2.2.2.1⟩ (hc.2 G l) ⟨va_cnB (bytes := N2) (maxL := N3) (ret := none) (own := M.1.cls) (index := ix) (host := "CheeseHill") av.length C0.2.2.2.2.1 (zGood hN) rfl rfl rfl (C0.2.2.2.2.2.1.2.1 _ hl) (C0.2.2.2.2.1 _ hN.2.2.1) ⟨hN.2.2.2.1.1, hN.2.2.2.1.2, hn1⟩ ⟨by show d + 1 ≤ _; exact C0.2.2.2.2.2.2.2.1, by show 8 + (_ + 11) + 64 * d ≤ _; have := C0.2.2.2.2.2.2.2.2; have : N3 + 19 ≤ 64 := hN.2.2.2.2; omega⟩, hnm, C0.2.2.2.2.1 _ h1⟩ (z_pre (av := .ref i :: av) hH hS C0.2.2.2.2.2.1) rfl (by simp) hL.1 (by show _ = _; rw [List.map_append, List.map_reverse]; rfl) (by rw [ztv_cats]; show 2 * 0 + _ ≤ 8; omega) hd ⟨by omega, by omega⟩
  exact z_cont hr hS (fun H1 locs1 hH1 hS1 => z_rest hm K C0 hn hH1 hS1 hL hQ)
/-- an object's class at the machine -/
theorem z_recv {G : zG} {s : State} {H : Heap} {i c N : Nat} {C : String} {T : u_T} (hc : zCok c C T N) (hs : h.1.2.2 i = (c, N)) (hi : i < h.1.1) (hH : zHr G h H) (hK : zK G s) : ∃ cell : Cell, H[zad G i]? = some cell ∧ cell.vm.isStatics = false ∧ s.vm.findClass C = some cell.cls := by
  have hi2 : i < 1000 := Nat.lt_of_lt_of_le hi hH.2.2
  have hw := zw_get (G := G) hi
  rw [zce_o hs hc.2.2.2.2.1] at hw
  rw [zad_lt hi2]
  exact va_recv hK.1 hH.2.1 hc.1 hw
/-- a method of an object whose class has it -/
theorem zi_callV {ix i c k : Nat} {C : String} {T : u_T} {N : zM} {av stk : List Value} {R1 : zR} (hd : decode M.2.1 pc = .ok (.invokevirtual ix, 3)) (hN : zMok N) (hl : Cond.methodLink M.1.cls ix N.1 ∈ zU) (h1 : Cond.instanceMethod N.1 ∈ zU) (h2 : Cond.selects C N.1 N.1 ∈ zU) (hc0 : zCok c C T k) (hs : h.1.2.2 i = (c, k)) (hi : i < h.1.1) (hn1 : zar N av.length) (hstk : stk = av.reverse ++ .ref i :: st) (hst : (st.map fun v => v.category).sum ≤ 8) (hc : zCall d N (.ref i :: av) h R1) (hR : R1.2.1.1 ≤ R.2.1.1 ∧ R1.2.1.2.1 ≤ R.2.1.2.1) (K : zA G (d + 1) M (pc + 3) ls (R1.1.toList ++ st) R1.2 R) : zA G (d + 1) M pc ls stk h R := by
  intro p l e Rm s m args below meth c0 n0 s0 Q H locs LS C0 hn hH hS hL hQ
  subst hstk
  have hm := hc.1
  have hpre := z_pre (av := .ref i :: av) hH hS C0.2.2.2.2.2.1
  have hr := va_runV (C := C) (b := zad G i) (As := av.map (ztv G)) (rest := st.map (ztv G)) (n := av.length) (g := F0 m pc LS ((av.reverse ++ .ref i :: st).map (ztv G))) (below := below) (meth := meth) (e := e) (cells := h.1.1 - n0) (slots := h.1.2.1 - s0) (locs := locs) (H := H) ⟨C0.1, C0.2.1, C0.2.2.1, C0.2.2.2.1, C0.2.2.2.2.1⟩ (hc.2 G l) ⟨callB_of (bytes := N.2.1) (maxL := N.2.2.1) (ret := N.2.2.2) (own := M.1.cls) (index := ix) av.length C0.2.2.2.2.1 (zGood hN) rfl rfl rfl (C0.2.2.2.2.1 _ hN.2.2.1) (C0.2.2.2.2.1 _ hl) ⟨hN.2.2.2.1.1, hN.2.2.2.1.2, hn1⟩ ⟨by show d + 1 ≤ _; exact C0.2.2.2.2.2.2.2.1, by show 8 + (_ + 11) + 64 * d ≤ _; have := C0.2.2.2.2.2.2.2.2; have := hN.2.2.2.2; omega⟩, C0.2.2.2.2.1 _ h1, C0.2.2.2.2.1 _ h2⟩ ⟨hpre.1, z_recv hc0 hs hi hH C0.2.2.2.2.2.1, hpre.2⟩ rfl (by simp) hL.1 (by show _ = _; rw [List.map_append, List.map_reverse]; rfl) (by rw [ztv_cats]; show 2 * 0 + _ ≤ 8; omega) hd ⟨by omega, by omega⟩
  exact z_cont hr hS (fun H1 locs1 hH1 hS1 => z_rest hm K C0 hn hH1 hS1 hL hQ)
end ZCALL2
