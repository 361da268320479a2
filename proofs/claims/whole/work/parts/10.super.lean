/-! RULE: super, where the class above inherits the method from the next one above -/
section ZSUPER
variable {G : zG} {d : Nat} {M : zM} {pc : Nat} {ls : List (Option Value)} {st : List Value} {h : zH} {R : zR}
theorem zi_callSX {ix i c k : Nat} {C : String} {T : u_T} {x : MethodName} {N : zM} {av stk : List Value} {R1 : zR} (hd : decode M.2.1 pc = .ok (.invokespecial ix, 3)) (hN : zMok N) (hl : Cond.methodLink M.1.cls ix x ∈ zU) (h1 : Cond.sameMethod x.cls N.1.cls x.name x.desc ∈ zU) (h2 : Cond.superclass M.1.cls x.cls ∈ zU) (h2b : Cond.superclass x.cls N.1.cls ∈ zU) (h3 : Cond.instanceMethod N.1 ∈ zU) (h4 : x.name ≠ "<init>") (h5 : N.1 = ⟨N.1.cls, x.name, x.desc⟩)
    (hc0 : zCok c C T k) (hs : h.1.2.2 i = (c, k)) (hi : i < h.1.1) (hn1 : zar N av.length) (hstk : stk = av.reverse ++ .ref i :: st) (hst : (st.map fun v => v.category).sum ≤ 8) (hc : zCall d N (.ref i :: av) h R1) (hR : R1.2.1.1 ≤ R.2.1.1 ∧ R1.2.1.2.1 ≤ R.2.1.2.1) (K : zA G (d + 1) M (pc + 3) ls (R1.1.toList ++ st) R1.2 R) : zA G (d + 1) M pc ls stk h R := by
  intro p l e Rm s m args below meth c0 n0 s0 Q H locs LS C0 hn hH hS hL hQ
  subst hstk
  have hm := hc.1
  have hpre := z_pre (av := .ref i :: av) hH hS C0.2.2.2.2.2.1
  have hw := C0.2.2.2.2.1
  obtain ⟨cellB, hcB, hoB, hclB⟩ := z_recv hc0 hs hi hH C0.2.2.2.2.2.1
  have hKn := C0.2.2.2.2.2.1.1.1 c _ hc0.1
  obtain ⟨hfcK, kB, hkB, -⟩ := hKn.2
  have hcc : s.vm.classes[cellB.cls]? = some kB := by
    rw [← Option.some.inj (hfcK.symm.trans hclB)]
    exact hkB
  have hK : Back l Rm p e below s args N.1 3 8 (PreOf Rm (R1.2.1.1 - h.1.1) (R1.2.1.2.1 - h.1.2.1) (zPc G (.ref i :: av) h)) (PostOf (zQc G R1) (R1.2.1.1 - h.1.1) (R1.2.1.2.1 - h.1.2.1) (zO G)) := by
    refine back_of (bytes := N.2.1) (maxL := N.2.2.1) (ret := N.2.2.2) (hc.2 G l) zPc_blind rfl rfl ?_ ?_ (pay_in hw (zGood hN)) List.mem_cons_self (fun a' U hW => word_at hW (zU_good hN.2.2.1) (hw _ hN.2.2.1))
    · show d + 1 ≤ _
      exact C0.2.2.2.2.2.2.2.1
    · show 8 + (_ + 11) + 64 * d ≤ _
      have := C0.2.2.2.2.2.2.2.2
      have := hN.2.2.2.2
      omega
  obtain ⟨mk, methM, hnamed, hmethM, hstM, habM⟩ := Cond.instanceMethod_spec (hw _ h3)
  obtain ⟨methM', cM, hmethM', -, -, -, -, -, -, hsigM⟩ := Cond.code_spec hnamed (hw _ hN.2.1)
  cases hmethM.symm.trans hmethM'
  obtain ⟨ps, dk, kp, hps, hdk, hkp, hsuper, -, -, hnid⟩ := Cond.superclass_spec C0.2.2.2.1 (hw _ h2)
  obtain ⟨p2, k2, kp2, hp2, hk2, hkp2, hsup2, -, -, -⟩ := Cond.superclass_spec hps (hw _ h2b)
  have hpm : p2 = mk.cls := Option.some.inj (hp2.symm.trans (findClass_of_methodNamed hnamed))
  have hsz : 0 < s.vm.classes.size := Nat.lt_of_le_of_lt (Nat.zero_le _) (Array.getElem?_eq_some_iff.mp hk2).1
  have hsub : s.vm.isSubclass ps mk.cls = true := by
    obtain ⟨q, hq⟩ : ∃ q, s.vm.classes.size = q + 1 := ⟨s.vm.classes.size - 1, by omega⟩
    simp [Vm.isSubclass, Vm.isSubclassAux, hq, hk2, hsup2, hpm]
  have hr : va_Run p l e Rm s m args below meth c0 H locs (h.1.1 - n0) (h.1.2.1 - s0) (R1.2.1.1 - h.1.1) (R1.2.1.2.1 - h.1.2.1) (F0 m pc LS ((av.reverse ++ .ref i :: st).map (ztv G))) (st.map (ztv G)) (zQc G R1 ((.ref i :: av).map (ztv G)).toArray) (zO G) := by
    intro T hT X
    have hlen : (av.map (ztv G)).length = methM.sig.parameters.length := by
      rw [List.length_map]
      have hn2 : (parseMethodDescriptor N.1.desc).map (fun d => d.parameters.length) = some av.length := hn1
      rw [hsigM] at hn2
      exact (Option.some.inj hn2).symm
    obtain ⟨vm₁, X₁, hstep₁⟩ := X.invokespecialUp C0.1 C0.2.2.2.1 (hw _ hl) (hw _ h1) (by rw [← h5]; exact hnamed) hmethM hstM habM h4 hdk hnid hps hsuper hsub (a := zad G i) (cell := cellB) (by rw [hT]; exact hcB)
      (fun z q => by rw [q] at hoB; cases hoB) hcc (g := F0 m pc LS ((av.reverse ++ .ref i :: st).map (ztv G))) rfl (argsL := av.map (ztv G)) (rest := st.map (ztv G)) hlen (by show _ = _; rw [List.map_append, List.map_reverse]; rfl) (by rw [C0.2.1]; exact hd)
    obtain ⟨v, B, X', hpost, hsteps⟩ := hK m meth c0 ⟨T.setVm vm₁, locs, h.1.1 - n0, h.1.2.1 - s0⟩ { F0 m pc LS ((av.reverse ++ .ref i :: st).map (ztv G)) with stack := st.map (ztv G) } (.invokespecial ix) mk ((.ref i :: av).map (ztv G)).toArray X₁ rfl (hL.1.trans C0.2.2.1.symm) (by rw [C0.2.1]; exact hd) (by show 2 * 0 + _ ≤ 8; rw [ztv_cats]; omega) (X₁.named hnamed) ⟨by show h.1.1 - n0 + (R1.2.1.1 - h.1.1) ≤ Rm.cells; omega, by show h.1.2.1 - s0 + (R1.2.1.2.1 - h.1.2.1) ≤ Rm.slots; omega, hpre.2 (T.setVm vm₁) hT X₁.warmed⟩
    obtain ⟨g', mk2, t, L, e1, e2, hq, f1, hLL, f2, f3⟩ := hpost
    obtain ⟨BU, Bl, Bc, Bs⟩ := B
    dsimp only [Pt.U, Pt.locs, Pt.cells, Pt.slots] at X' e1 e2 f1 f2 f3 hsteps
    subst f1; subst f2; subst f3
    exact ⟨v, _, t, BU, L, hT, X', hLL, e1, e2, hq, fun target q => hstep₁ _ (by rw [doInvoke_state]; exact hsteps.trans q)⟩
  exact z_cont hr hS (fun H1 locs1 hH1 hS1 => z_rest hm K C0 hn hH1 hS1 hL hQ)
end ZSUPER
