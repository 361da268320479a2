/-! WHAT STANDS ALL THE TIME (zK), a method's frame (zC), the judgement (zA), a call's contract (zCall) -/
def zNest : List (String × Nat × MethodName) := [(RX11, 11, yX4_init), (RX11, 27, yX5_init), (RX5, 9, yX9_init), (RX5, 18, yX6_init), (RX6, 3, yX9_init), (RX5, 24, yX8_init), (RX8, 3, yX6_init), (RX5, 30, yX2_init), (RX2, 1, yX9_init), (RX5, 36, yX0_init), (RX0, 3, yX9_init), (RX11, 34, yX10_init), (RX11, 41, yX3_init), (RX11, 48, yX1_init), (RX11, 55, yX7_init), (RX4, 64, yX11_within), (RX4, 72, yX11_onLine), (RX7, 103, yX11_within), (RX7, 85, yX11_cell), (RX7, 97, yX11_onLine), (RX10, 54, yX11_cell), (RX10, 67, yX11_onWay), (RX10, 80, yX11_onLine), (RX3, 34, yX11_cell), (RX1, 36, yX11_cell)]
/-- the texts: their entries in the pool of Text, their words -/
def zTx : List (Nat × String) := [(37, "hill"), (57, "slope"), (65, "ground"), (69, "runner"), (74, "line")]
def zLen : List Nat := [4, 5, 6, 6, 4]
def zByt : List (List Int32) := [[104, 105, 108, 108], [115, 108, 111, 112, 101], [103, 114, 111, 117, 110, 100], [114, 117, 110, 110, 101, 114], [108, 105, 110, 101]]
def zK (G : zG) (U : State) : Prop :=
  va_K G.2.2.1 vwCl [(G.2.1.1, .int), (G.2.1.2, .boolean)] U ∧
  (∀ q ∈ zNest, va_Nw (.methodLinkNest q.1 q.2.1 q.2.2 "CheeseHill") U) ∧
  (∀ (k : Nat) (q : Nat × String), zTx[k]? = some q → vk_R RX7 q.1 q.2 (G.2.2.2.1.1 k) U) ∧
  vk_S 5 zLen zByt G.2.2.2.1.1 G.2.2.2.1.2 (zO G) U U.heap ∧
  va_Z "java/lang/String" "COMPACT_STRINGS" "Z" (.int 1) (zO G) U U.heap ∧
  (va_Z "jdk/internal/util/Preconditions" "SIOOBE_FORMATTER" "Ljava/util/function/BiFunction;" .null (zO G) U U.heap ∨ va_Z "jdk/internal/util/Preconditions" "SIOOBE_FORMATTER" "Ljava/util/function/BiFunction;" (.ref G.2.2.2.2.2.2.2) (zO G) U U.heap) ∧
  va_X G.2.2.2.2.1 G.2.2.2.2.2.1 G.2.2.2.2.2.2.1 U U.heap ∧ G.2.2.2.2.1 < G.1 ∧ G.1 ≤ U.heap.size
theorem zK.kept {G : zG} {s U : State} {H : Heap} {locs : List Loc} (h : zK G s) (hS : va_S (zO G) s.heap H locs) (hU : U.heap = H) (hW : s.WarmedH U.vm) : zK G U := by
  obtain ⟨h1, h2, h3, h4, h5, h6, h7, h8, h9⟩ := h
  have hk : ∀ a : Nat, a < s.heap.size → ¬ zO G a → U.heap[a]? = s.heap[a]? := fun a ha hn => by rw [hU]; exact hS.2.1 a ha hn
  refine ⟨va_K.moved hW.alike h1, fun q hq => va_Nw.warmM hW (h2 q hq), fun k q hq => vk_R.warm hW (h3 k q hq), (vk_S.moved hW.alike h4).kept hk, (va_Z.moved hW.alike h5).kept hk, h6.elim (fun q => Or.inl ((va_Z.moved hW.alike q).kept hk)) (fun q => Or.inr ((va_Z.moved hW.alike q).kept hk)), (va_X.moved hW.alike h7).kept (hk _ (Nat.lt_of_lt_of_le h8 h9) (Nat.not_le.mpr h8)), h8, ?_⟩
  rw [hU]
  exact Nat.le_trans h9 hS.1
theorem zK.blind {G : zG} {U : State} {g : JFrame} {mk : MethodId} {a : Array Value} (h : zK G U) : zK G (U.calling g mk a) := by
  obtain ⟨h1, h2, h3, h4, h5, h6, h7, h8, h9⟩ := h
  refine ⟨va_K.moved (u := U) (Vm.Alike.refl U.vm) h1, fun q hq => va_Nw.same rfl (u := U) rfl (h2 q hq), fun k q hq => vk_R.same (u := U) rfl (h3 k q hq), vk_S.moved (u := U) (Vm.Alike.refl U.vm) h4, va_Z.moved (u := U) (Vm.Alike.refl U.vm) h5, h6.elim (fun q => Or.inl (va_Z.moved (u := U) (Vm.Alike.refl U.vm) q)) (fun q => Or.inr (va_Z.moved (u := U) (Vm.Alike.refl U.vm) q)), va_X.moved (u := U) (Vm.Alike.refl U.vm) h7, h8, h9⟩
def zC (G : zG) (d : Nat) (M : zM) (p : Program) (Rm : Room) (s : State) (m : MethodId) (args : Array Value) (meth : Method) (c : Code) : Prop :=
  p.tables.exec = Jvm.exec ∧ c.code = M.2.1 ∧ c.maxLocals = M.2.2.1 ∧ s.vm.findClass M.1.cls = some m.cls ∧ (∀ w ∈ zU, w.before args s = true) ∧ zK G s ∧ meth.name = M.1.name ∧ d ≤ Rm.frames ∧ 64 * d ≤ Rm.locals
/-- which answer an instruction gives back -/
def zOk (M : zM) (v : Option Value) (ins : Instr) : Prop :=
  (ins = .ireturn ∧ ∃ (x : Int32) (ty : FieldType), v = some (.int x) ∧ M.2.2.2 = some ty ∧ narrow ty (.int x) = .int x) ∨
  (ins = .lreturn ∧ ∃ x : Int64, v = some (.long x) ∧ M.2.2.2 = some .long) ∨
  (ins = .areturn ∧ ∃ (i : Nat) (n : String), v = some (.ref i) ∧ M.2.2.2 = some (.object n)) ∨
  (ins = .return_ ∧ v = none ∧ M.2.2.2 = none)
def zRet (G : zG) (M : zM) (R : zR) (p : Program) (l : Launch) (e : Env) (Rm : Room) (s : State) (m : MethodId) (args : Array Value) (below : List Frame) (meth : Method) (c : Code) (n0 s0 : Nat) (Q : State → Prop) : Prop :=
  ∀ (H : Heap) (locs : List Loc) (pc : Nat) (LS : Array Slot) (ins : Instr), zHr G R.2 H → va_S (zO G) s.heap H locs → decode M.2.1 pc = .ok (ins, 1) → zOk M R.1 ins →
    W p l e Rm s m args below meth c H locs (R.2.1.1 - n0) (R.2.1.2.1 - s0) Q (F0 m pc LS (R.1.map (ztv G)).toList)
/-- THE JUDGEMENT: from frame (pc, locals, stack) over the state h the method M comes to its end with R -/
def zA (G : zG) (d : Nat) (M : zM) (pc : Nat) (ls : List (Option Value)) (st : List Value) (h : zH) (R : zR) : Prop :=
  ∀ (p : Program) (l : Launch) (e : Env) (Rm : Room) (s : State) (m : MethodId) (args : Array Value) (below : List Frame) (meth : Method) (c : Code) (n0 s0 : Nat) (Q : State → Prop) (H : Heap) (locs : List Loc) (LS : Array Slot),
    zC G d M p Rm s m args meth c → (s.heap.size = G.1 + n0 ∧ n0 ≤ h.1.1 ∧ s0 ≤ h.1.2.1 ∧ R.2.1.1 - n0 ≤ Rm.cells ∧ R.2.1.2.1 - s0 ≤ Rm.slots) → zHr G h H → va_S (zO G) s.heap H locs → zLr G ls M.2.2.1 LS →
    zRet G M R p l e Rm s m args below meth c n0 s0 Q →
    W p l e Rm s m args below meth c H locs (h.1.1 - n0) (h.1.2.1 - s0) Q (F0 m pc LS (st.map (ztv G)))
def zws (M : zM) : List Cond := .code M.1 M.2.1 M.2.2.1 M.2.2.2 :: zU
def zrm (d mc ms : Nat) : Room := { frames := d, cells := mc, slots := ms, locals := 64 * d }
def zPc (G : zG) (args : List Value) (h : zH) : Array Value → State → Prop := fun v U => v = (args.map (ztv G)).toArray ∧ zHr G h U.heap ∧ zK G U
def zQc (G : zG) (R : zR) : Array Value → State → Outcome → State → Prop := fun _ st o t => o = .returned (R.1.map (ztv G)) ∧ zHr G R.2 t.heap ∧ va_F (zO G) st t
/-- A CALL of M on args over h ends with R -/
def zCall (d : Nat) (M : zM) (args : List Value) (h : zH) (R : zR) : Prop :=
  (h.1.1 ≤ R.2.1.1 ∧ h.1.2.1 ≤ R.2.1.2.1) ∧ ∀ (G : zG) (l : Launch), Met l M.1 (zws M) (zrm d (R.2.1.1 - h.1.1) (R.2.1.2.1 - h.1.2.1)) (zPc G args h) (zQc G R) (R.2.1.1 - h.1.1) (R.2.1.2.1 - h.1.2.1) (zO G)
theorem zPc_blind {G : zG} {args : List Value} {h : zH} : FrameBlind (zPc G args h) := fun _ _ _ _ q => ⟨q.1, q.2.1, q.2.2.blind⟩
/-- what a method's words must be -/
def zMok (M : zM) : Prop := plainName M.1.cls = true ∧ Cond.code M.1 M.2.1 M.2.2.1 M.2.2.2 ∈ zU ∧ Cond.initialized M.1.cls ∈ zU ∧ (M.1.cls ≠ "java/lang/invoke/MethodHandle" ∧ M.1.cls ≠ "java/lang/invoke/VarHandle") ∧ M.2.2.1 + 19 ≤ 64
theorem zU_good {w : Cond} (h : w ∈ zU) : (w.onTables && w.keeps) = true ∨ ∃ ty, w = .arrayClass ty := good_of_word (List.mem_filter.mp h).2
theorem zGood {M : zM} (h : zMok M) : GoodIn zU (zws M) := by
  intro w hw
  rcases List.mem_cons.mp hw with rfl | hw
  · exact ⟨h.2.1, zU_good h.2.1⟩
  · exact ⟨hw, zU_good hw⟩
theorem zslots {G : zG} (vs : List Value) : (lg_sl (vs.map (ztv G))).length = (vs.map fun v => v.category).sum := by
  induction vs with
  | nil => rfl
  | cons v vs ih =>
    simp only [lg_sl, List.map_cons, List.flatMap_cons, List.length_append, List.sum_cons] at ih ⊢
    rw [ih, ztv_cat]
    rcases lv_cat v with h | h <;> simp [h]
set_option maxHeartbeats 1000000 in
theorem zCall.of {d : Nat} {M : zM} {args : List Value} {h : zH} {R : zR} (hM : zMok M) (ha : (args.map fun v => v.category).sum ≤ M.2.2.1) (hm : h.1.1 ≤ R.2.1.1 ∧ h.1.2.1 ≤ R.2.1.2.1) (K : ∀ G : zG, zA G d M 0 (zent args M.2.2.1) [] h R) : zCall d M args h R := by
  refine ⟨hm, fun G l => ?_⟩
  refine Met.ofW (cc := M.2.1) (maxL := M.2.2.1) (ret := M.2.2.2) hM.1 rfl ?_
  intro p e s m a below meth c s₁ B hml hv
  obtain ⟨rfl, hH, hK⟩ := hv
  have hx := B.exec
  have hb := B.bytes
  have hr := B.returns
  have hts := atoms_spec (ws := zws M) B.pre
  have hown : s.vm.findClass M.1.cls = some m.cls := findClass_of_methodNamed B.named
  have hlocks := B.notSynchronized
  have hin : meth.name = M.1.name := (name_of_methodNamed B.named B.method).1
  have hle : (lg_sl (args.map (ztv G))).length ≤ M.2.2.1 := by rw [zslots]; exact ha
  have hl := lv_entry (args.map (ztv G)) hle
  rw [lg_entry_eq]
  generalize (lg_sl (args.map (ztv G)) ++ List.replicate (M.2.2.1 - (lg_sl (args.map (ztv G))).length) Slot.unset).toArray = LS at hl ⊢
  have hL : zLr G (zent args M.2.2.1) M.2.2.1 LS := ⟨hl.1, hl.2.1, fun k v hk => by
    have := zent_spec (G := G) args M.2.2.1 0 k v hk
    rw [Nat.zero_add] at this
    exact hl.2.2 _ this⟩
  have hC : zC G d M p (zrm d (R.2.1.1 - h.1.1) (R.2.1.2.1 - h.1.2.1)) s m (args.map (ztv G)).toArray meth c := ⟨hx, hb, hml, hown, fun w hw => hts w (List.mem_cons_of_mem _ hw), hK, hin, Nat.le_refl _, Nat.le_refl _⟩
  have hW := K G p l e (zrm d (R.2.1.1 - h.1.1) (R.2.1.2.1 - h.1.2.1)) s m (args.map (ztv G)).toArray below meth c h.1.1 h.1.2.1 (MQ below (zQc G R) (args.map (ztv G)).toArray s (R.2.1.1 - h.1.1) (R.2.1.2.1 - h.1.2.1) (zO G)) s.heap [] LS hC ⟨hH.1, Nat.le_refl _, Nat.le_refl _, Nat.le_refl _, Nat.le_refl _⟩ hH va_S.rf hL ?_
  · rw [Nat.sub_self, Nat.sub_self] at hW
    exact hW
  · intro H locs pc LS ins hH hS hdg hok
    rcases hok with ⟨rfl, x, ty, hv, hty, hn⟩ | ⟨rfl, x, hv, hty⟩ | ⟨rfl, i, n, hv, hty⟩ | ⟨rfl, hv, hty⟩
    · have hQ : ∀ t : State, t.heap = H → s.WarmedH t.vm → zQc G R (args.map (ztv G)).toArray s (.returned (some (.int x))) t := fun t ht _ => ⟨by rw [hv]; rfl, by rw [ht]; exact hH, hS.F ht⟩
      rw [hv]
      exact W.zret hx hb (hr.trans hty) hn hQ hS.2.2 hdg
    · have hQ : ∀ t : State, t.heap = H → s.WarmedH t.vm → zQc G R (args.map (ztv G)).toArray s (.returned (some (.long x))) t := fun t ht _ => ⟨by rw [hv]; rfl, by rw [ht]; exact hH, hS.F ht⟩
      rw [hv]
      exact W.lret hx hb (hr.trans hty) hQ hS.2.2 hdg
    · have hQ : ∀ t : State, t.heap = H → s.WarmedH t.vm → zQc G R (args.map (ztv G)).toArray s (.returned (some (.ref (zad G i)))) t := fun t ht _ => ⟨by rw [hv]; rfl, by rw [ht]; exact hH, hS.F ht⟩
      rw [hv]
      exact W.aret hx hb (hr.trans hty) (Or.inl ⟨n, rfl⟩) (Or.inr ⟨_, rfl⟩) hQ hS.2.2 hdg
    · have hQ : ∀ t : State, t.heap = H → s.WarmedH t.vm → zQc G R (args.map (ztv G)).toArray s (.returned none) t := fun t ht _ => ⟨by rw [hv]; rfl, by rw [ht]; exact hH, hS.F ht⟩
      rw [hv]
      exact W.vret hx hb (hr.trans hty) hQ hS.2.2 hdg
theorem zMet.mono {l : Launch} {y : MethodName} {ws : List Cond} {d d' mc ms : Nat} {Pc : Array Value → State → Prop} {Qc : Array Value → State → Outcome → State → Prop} {free : Addr → Prop} (hd : d = d') (h : Met l y ws (zrm d mc ms) Pc Qc mc ms free) : Met l y ws (zrm d' mc ms) Pc Qc mc ms free := hd ▸ h
