/-! RULES: inherited and overriding methods, super, the script, texts -/
section ZCALL3
variable {G : zG} {d : Nat} {M : zM} {pc : Nat} {ls : List (Option Value)} {st : List Value} {h : zH} {R : zR}
/-- a method that the link names as x, found by the object's class C as N; x is declared by the class owner -/
theorem zi_callU {ix i c k : Nat} {C owner : String} {T : u_T} {x : MethodName} {N N0 : zM} {av stk : List Value} {R1 : zR} (hd : decode M.2.1 pc = .ok (.invokevirtual ix, 3)) (hN : zMok N) (hl : Cond.methodLink M.1.cls ix x ∈ zU) (h1 : Cond.sameMethod x.cls owner x.name x.desc ∈ zU) (h2 : Cond.selects C x N.1 ∈ zU) (h3 : Cond.instanceMethod N.1 ∈ zU) (h4 : Cond.instanceMethod N0.1 ∈ zU) (h5 : Cond.code N0.1 N0.2.1 N0.2.2.1 N0.2.2.2 ∈ zU) (h6 : N0.1 = ⟨owner, x.name, x.desc⟩) (h7 : owner ≠ "java/lang/invoke/MethodHandle" ∧ owner ≠ "java/lang/invoke/VarHandle")
    (hc0 : zCok c C T k) (hs : h.1.2.2 i = (c, k)) (hi : i < h.1.1) (hn1 : (parseMethodDescriptor x.desc).map (fun d => d.parameters.length) = some av.length) (hstk : stk = av.reverse ++ .ref i :: st) (hst : (st.map fun v => v.category).sum ≤ 8) (hc : zCall d N (.ref i :: av) h R1) (hR : R1.2.1.1 ≤ R.2.1.1 ∧ R1.2.1.2.1 ≤ R.2.1.2.1) (K : zA G (d + 1) M (pc + 3) ls (R1.1.toList ++ st) R1.2 R) : zA G (d + 1) M pc ls stk h R := by
  intro p l e Rm s m args below meth c0 n0 s0 Q H locs LS C0 hn hH hS hL hQ
  subst hstk
  have hm := hc.1
  have hpre := z_pre (av := .ref i :: av) hH hS C0.2.2.2.2.2.1
  have hw := C0.2.2.2.2.1
  have hcu : va_CU Rm s args M.1.cls C owner ix x N.1 N.2.1 N.2.2.1 N.2.2.2 (zws N) (zrm d (R1.2.1.1 - h.1.1) (R1.2.1.2.1 - h.1.2.1)) (R1.2.1.1 - h.1.1) (R1.2.1.2.1 - h.1.2.1) av.length := by
    refine ⟨⟨rfl, rfl, ?_, ?_, pay_in hw (zGood hN), List.mem_cons_self⟩, hw _ hN.2.1, hw _ hN.2.2.1, h7, fun sig hsig => ?_, hw _ hl, hw _ h1, ?_, hw _ h2, hw _ h3⟩
    · show d + 1 ≤ _
      exact C0.2.2.2.2.2.2.2.1
    · show 8 + (_ + 11) + 64 * d ≤ _
      have := C0.2.2.2.2.2.2.2.2
      have := hN.2.2.2.2
      omega
    · rw [hsig] at hn1
      exact (Option.some.inj hn1).symm
    · rw [← h6]
      exact va_Decl.of (hw _ h4) (hw _ h5)
  have hr := va_runU (C := C) (b := zad G i) (As := av.map (ztv G)) (rest := st.map (ztv G)) (n := av.length) (g := F0 m pc LS ((av.reverse ++ .ref i :: st).map (ztv G))) (below := below) (meth := meth) (e := e) (cells := h.1.1 - n0) (slots := h.1.2.1 - s0) (locs := locs) (H := H) ⟨C0.1, C0.2.1, C0.2.2.1, C0.2.2.2.1, hw⟩ (hc.2 G l) hcu ⟨hpre.1, z_recv hc0 hs hi hH C0.2.2.2.2.2.1, hpre.2⟩ rfl (by simp) hL.1 (by show _ = _; rw [List.map_append, List.map_reverse]; rfl) (by rw [ztv_cats]; show 2 * 0 + _ ≤ 8; omega) hd ⟨by omega, by omega⟩
  exact z_cont hr hS (fun H1 locs1 hH1 hS1 => z_rest hm K C0 hn hH1 hS1 hL hQ)
/-- a method of the class above -/
theorem zi_callSU {ix i c k : Nat} {C : String} {T : u_T} {N : zM} {av stk : List Value} {R1 : zR} (hd : decode M.2.1 pc = .ok (.invokespecial ix, 3)) (hN : zMok N) (hl : Cond.methodLink M.1.cls ix N.1 ∈ zU) (h1 : Cond.sameMethod N.1.cls N.1.cls N.1.name N.1.desc ∈ zU) (h2 : Cond.superclass M.1.cls N.1.cls ∈ zU) (h3 : Cond.instanceMethod N.1 ∈ zU) (h4 : N.1.name ≠ "<init>")
    (hc0 : zCok c C T k) (hs : h.1.2.2 i = (c, k)) (hi : i < h.1.1) (hn1 : zar N av.length) (hstk : stk = av.reverse ++ .ref i :: st) (hst : (st.map fun v => v.category).sum ≤ 8) (hc : zCall d N (.ref i :: av) h R1) (hR : R1.2.1.1 ≤ R.2.1.1 ∧ R1.2.1.2.1 ≤ R.2.1.2.1) (K : zA G (d + 1) M (pc + 3) ls (R1.1.toList ++ st) R1.2 R) : zA G (d + 1) M pc ls stk h R := by
  intro p l e Rm s m args below meth c0 n0 s0 Q H locs LS C0 hn hH hS hL hQ
  subst hstk
  have hm := hc.1
  have hpre := z_pre (av := .ref i :: av) hH hS C0.2.2.2.2.2.1
  have hw := C0.2.2.2.2.1
  have hKn := C0.2.2.2.2.2.1.1.1 c _ hc0.1
  have hcs : va_CS Rm s args M.1.cls ix N.1 N.2.1 N.2.2.1 N.2.2.2 (zws N) (zrm d (R1.2.1.1 - h.1.1) (R1.2.1.2.1 - h.1.2.1)) (R1.2.1.1 - h.1.1) (R1.2.1.2.1 - h.1.2.1) av.length := by
    refine va_cwSU (ws' := zU) av.length hw (fun w h => ?_) rfl rfl rfl ⟨h4, hn1⟩ ⟨?_, ?_⟩
    · rcases List.mem_append.mp h with q | q
      · simp only [List.mem_cons, List.not_mem_nil, or_false] at q
        rcases q with rfl | rfl | rfl | rfl | rfl
        · exact ⟨hl, zU_good hl⟩
        · exact ⟨h1, zU_good h1⟩
        · exact ⟨h2, zU_good h2⟩
        · exact ⟨h3, zU_good h3⟩
        · exact ⟨hN.2.2.1, zU_good hN.2.2.1⟩
      · exact zGood hN w q
    · show d + 1 ≤ _
      exact C0.2.2.2.2.2.2.2.1
    · show 8 + (_ + 11) + 64 * d ≤ _
      have := C0.2.2.2.2.2.2.2.2
      have := hN.2.2.2.2
      omega
  have hr := va_runSU (C := C) (b := zad G i) (As := av.map (ztv G)) (rest := st.map (ztv G)) (n := av.length) (g := F0 m pc LS ((av.reverse ++ .ref i :: st).map (ztv G))) (below := below) (meth := meth) (e := e) (cells := h.1.1 - n0) (slots := h.1.2.1 - s0) (locs := locs) (H := H) hKn.2 ⟨C0.1, C0.2.1, C0.2.2.1, C0.2.2.2.1, hw⟩ (hc.2 G l) hcs ⟨hpre.1, z_recv hc0 hs hi hH C0.2.2.2.2.2.1, hpre.2⟩ rfl (by simp) hL.1 (by show _ = _; rw [List.map_append, List.map_reverse]; rfl) (by rw [ztv_cats]; show 2 * 0 + _ ≤ 8; omega) hd ⟨by omega, by omega⟩
  exact z_cont hr hS (fun H1 locs1 hH1 hS1 => z_rest hm K C0 hn hH1 hS1 hL hQ)
/-- a text's constant: number k -/
theorem zi_ldcS {ix k : Nat} {tx : String} (hd : decode M.2.1 pc = .ok (.ldc ix, 2)) (hM : M.1.cls = RX7) (hk : zTx[k]? = some (ix, tx)) (K : zA G d M (pc + 2) ls (.ref (1000 + k) :: st) h R) : zA G d M pc ls st h R := by
  intro p l e Rm s m args below meth c0 n0 s0 Q H locs LS C0 hn hH hS hL hQ
  have hk5 : k < 5 := (List.getElem?_eq_some_iff.mp hk).1
  have hz := C0.2.2.2.2.2.1.2.2.1 k _ hk
  have KK := K p l e Rm s m args below meth c0 n0 s0 Q H locs LS C0 hn hH hS hL hQ
  have e1 : ztv G (.ref (1000 + k)) = .ref (G.2.2.2.1.1 k) := by
    have h1 : ¬ 1000 + k < 1000 := by omega
    have h2 : 1000 + k < 1100 := by omega
    simp [ztv, zad, h1, h2]
  rw [List.map_cons, e1] at KK
  exact va_ldcS C0.1 C0.2.1 (by rw [← hM]; exact C0.2.2.2.1) hz hd KK
end ZCALL3
