/-! RULES: boolean arrays, the script, new cells, copies, calls -/
/-- the heap has just the cells of the world: by the room, and as they all stand -/
theorem zW_size {G : zG} {p : Program} {l : Launch} {e : Env} {Rm : Room} {s : State} {m : MethodId} {args : Array Value} {below : List Frame} {meth : Method} {c : Code} {H : Heap} {locs : List Loc} {slots n0 : Nat} {Q : State → Prop} {g : JFrame} {h : zH} (hn0 : s.heap.size = G.1 + n0) (hle : n0 ≤ h.1.1) (hP : va_P G.2.2.1 vwCl (zw G h) H) (hS : va_S (zO G) s.heap H locs)
    (K : H.size = G.1 + h.1.1 → W p l e Rm s m args below meth c H locs (h.1.1 - n0) slots Q g) : W p l e Rm s m args below meth c H locs (h.1.1 - n0) slots Q g := by
  intro T hT X
  have h1 := X.same.2.2.1
  have h2 : (T.setVm s.vm).heap = H := hT
  rw [h2, hn0] at h1
  have h3 : G.1 + h.1.1 ≤ H.size := by
    rcases Nat.eq_zero_or_pos h.1.1 with q | q
    · have := hS.1
      rw [hn0] at this
      omega
    · have := (hP (h.1.1 - 1) _ (zw_get (h := h) (G := G) (by omega))).lt
      simp only at this
      omega
  exact K (by omega) T hT X
theorem zu_native : Cond.native arraycopyName ∈ zU := zU_mem 701 (by decide +kernel) rfl
theorem zu_static : Cond.static arraycopyName ∈ zU := zU_mem 700 (by decide +kernel) rfl
theorem zu_system : Cond.initialized "java/lang/System" ∈ zU := zU_mem 70 (by decide +kernel) rfl
section ZCALLS
variable {G : zG} {d : Nat} {M : zM} {pc : Nat} {ls : List (Option Value)} {st : List Value} {h : zH} {R : zR}
theorem zi_zastore {i n : Nat} {j x : Int32} (hd : decode M.2.1 pc = .ok (.bastore, 1)) (hs : h.1.2.2 i = (101, n)) (hi : i < h.1.1) (hj : vp_in j n) (hx : vp_nar .boolean x = x) (K : zA G d M (pc + 1) ls st (h.1, zup h.2.1 i j.toNatClampNeg x, h.2.2.1, h.2.2.2) R) : zA G d M pc ls (.int x :: .int j :: .ref i :: st) h R := by
  intro p l e Rm s m args below meth c0 n0 s0 Q H locs LS C0 hn hH hS hL hQ
  have hi2 : i < 1000 := Nat.lt_of_lt_of_le hi hH.2.2
  have hw := zw_get (G := G) hi
  rw [zce_z hs] at hw
  show W p l e Rm s m args below meth c0 H locs _ _ Q (F0 m pc LS (.int x :: .int j :: ztv G (.ref i) :: st.map (ztv G)))
  rw [ztv_lt hi2]
  refine va_zast C0.1 C0.2.1 C0.2.2.2.2.2.1.1 hH.2.1 zD hS i 1 hw rfl hj hd (fun H1 locs1 hP1 _ hS1 => ?_)
  rw [hx, zwI_set (Or.inr ⟨rfl, rfl⟩) hs, ← zup_row] at hP1
  exact zW_size (h := (h.1, zup h.2.1 i j.toNatClampNeg x, h.2.2.1, h.2.2.2)) hn.1 hn.2.1 hP1 hS1 (fun hz => K p l e Rm s m args below meth c0 n0 s0 Q H1 _ LS C0 hn ⟨hz, hP1, hH.2.2⟩ hS1 hL hQ)
/-- System.arraycopy between int arrays -/
theorem zi_copy {ix i j n0 n1 : Nat} {sp dp n : Int32} (hd : decode M.2.1 pc = .ok (.invokestatic ix, 3)) (hl : Cond.methodLink M.1.cls ix arraycopyName ∈ zU) (hi : i < h.1.1) (hj : j < h.1.1) (hsi : h.1.2.2 i = (100, n0)) (hsj : h.1.2.2 j = (100, n1)) (h1 : ¬ sp < 0) (h2 : ¬ dp < 0) (h3 : ¬ n < 0) (h4 : sp.toNatClampNeg + n.toNatClampNeg ≤ n0) (h5 : dp.toNatClampNeg + n.toNatClampNeg ≤ n1) (hst : (st.map fun v => v.category).sum ≤ 8)
    (K : zA G (d + 1) M (pc + 3) ls st (h.1, zrow h.2.1 j (va_cpy (h.2.1 i) (h.2.1 j) sp.toNatClampNeg dp.toNatClampNeg n.toNatClampNeg), h.2.2.1, h.2.2.2) R) : zA G (d + 1) M pc ls (.int n :: .int dp :: .ref j :: .int sp :: .ref i :: st) h R := by
  intro p l e Rm s m args below meth c0 m0 s0 Q H locs LS C0 hn hH hS hL hQ
  have hi2 : i < 1000 := Nat.lt_of_lt_of_le hi hH.2.2
  have hj2 : j < 1000 := Nat.lt_of_lt_of_le hj hH.2.2
  have hwi := zw_get (G := G) hi
  rw [zce_i hsi] at hwi
  have hwj := zw_get (G := G) hj
  rw [zce_i hsj] at hwj
  show W p l e Rm s m args below meth c0 H locs _ _ Q (F0 m pc LS (.int n :: .int dp :: ztv G (.ref j) :: .int sp :: ztv G (.ref i) :: st.map (ztv G)))
  rw [ztv_lt hi2, ztv_lt hj2]
  refine va_copyi C0.1 C0.2.1 (C0.2.2.1.trans hL.1.symm) C0.2.2.2.1 (C0.2.2.2.2.1 _ hl) (C0.2.2.2.2.1 _ zu_native) (C0.2.2.2.2.1 _ zu_static) (C0.2.2.2.2.1 _ zu_system) C0.2.2.2.2.2.1.1 hH.2.1 zD hS i j 0 0 hwi hwj rfl rfl rfl h1 h2 h3 h4 h5 (fun _ _ => rfl) ?_ ?_ hd (fun H1 locs1 hP1 _ hS1 => ?_)
  · have := C0.2.2.2.2.2.2.2.1
    omega
  · rw [ztv_cats]
    have := C0.2.2.2.2.2.2.2.2
    have h9 : nativeFrameWords "java/lang/System" "arraycopy" 5 ≤ 40 := by decide +kernel
    omega
  · rw [zwI_set (Or.inl ⟨rfl, rfl⟩) hsj] at hP1
    exact zW_size (h := (h.1, zrow h.2.1 j (va_cpy (h.2.1 i) (h.2.1 j) sp.toNatClampNeg dp.toNatClampNeg n.toNatClampNeg), h.2.2.1, h.2.2.2)) hn.1 hn.2.1 hP1 hS1 (fun hz => K p l e Rm s m args below meth c0 m0 s0 Q H1 _ LS C0 hn ⟨hz, hP1, hH.2.2⟩ hS1 hL hQ)
/-- the state with a new object of class c -/
def zadd (h : zH) (c N sl : Nat) : zH := ((h.1.1 + 1, h.1.2.1 + sl, fun i => if i = h.1.1 then (c, N) else h.1.2.2 i), (fun a b => if a = h.1.1 then 0 else h.2.1 a b), (fun a b => if a = h.1.1 then 0 else h.2.2.1 a b), (fun a b => if a = h.1.1 then .null else h.2.2.2 a b))
theorem zadd_old {G : zG} {h : zH} {c N sl i : Nat} (hi : i < h.1.1) : zce G (zadd h c N sl) i = zce G h i := by
  have hne : i ≠ h.1.1 := Nat.ne_of_lt hi
  exact zce_congr (by simp [zadd, hne]) (by funext b; simp [zadd, hne]) (by funext b; simp [zadd, hne]) (by funext b; simp [zadd, hne])
theorem zi_new {ix c N : Nat} {C : String} {T : u_T} (hd : decode M.2.1 pc = .ok (.new ix, 3)) (hc : zCok c C T N) (hl : Cond.classLink M.1.cls ix C ∈ zU) (h1 : Cond.instantiable C N ∈ zU) (h2 : Cond.initialized C ∈ zU) (hz : h.1.1 + 1 ≤ 1000) (hR : h.1.1 + 1 ≤ R.2.1.1 ∧ h.1.2.1 + N ≤ R.2.1.2.1) (K : zA G d M (pc + 3) ls (.ref h.1.1 :: st) (zadd h c N N) R) : zA G d M pc ls st h R := by
  intro p l e Rm s m args below meth c0 n0 s0 Q H locs LS C0 hn hH hS hL hQ
  have hKn := C0.2.2.2.2.2.1.1.1 c _ hc.1
  refine W.newcK C0.1 C0.2.1 C0.2.2.2.1 (C0.2.2.2.2.1 _ hl) (C0.2.2.2.2.1 _ h1) (C0.2.2.2.2.1 _ h2) rfl hd (by omega) (by omega) hKn.2.1 hH.1 fun H1 kC hkC e1 z1 o1 => ?_
  have hk : ∀ (k : Nat) (x : Nat × va_E), (zw G h)[k]? = some x → H1[x.1]? = H[x.1]? := fun k x hx => o1 x.1 (by rw [← hH.1]; exact (hH.2.1 k x hx).lt)
  have hfs : ∀ j, j < N → defaultValue (zty c j) = vp_V ((List.range N).map (zfv G (zadd h c N N) c h.1.1)) j := by
    intro j hj
    rw [vp_V, List.getD_eq_getElem?_getD, List.getElem?_map, List.getElem?_range hj]
    simp only [Option.map_some, Option.getD_some, zfv, zfk]
    have hp := hc.2.2.2.2.2 j hj
    cases hz : zty c j <;> simp_all [zadd, defaultValue, ztv, zkt]
  have hP1 : va_P G.2.2.1 vwCl (zw G h ++ [(G.1 + h.1.1, .inr (c, (List.range N).map (zfv G (zadd h c N N) c h.1.1)))]) H1 := by
    refine (hH.2.1.kept hk).app (fun k x hx => ?_)
    have hz : k < 1 := (List.getElem?_eq_some_iff.mp hx).1
    rw [show k = 0 by omega] at hx
    cases hx
    exact ⟨_, hc.1, (u_born (zty c) C0.2.2.2.2.1 hc.2.1 hKn hkC e1 hc.2.2.1).to hfs⟩
  rw [zw_push (h' := zadd h c N N) rfl (by rw [zce_o (h := zadd h c N N) (c := c) (n := N) (by simp [zadd]) hc.2.2.2.2.1]) (fun j hj => zadd_old hj)] at hP1
  have hS1 : va_S (zO G) s.heap H1 locs := ⟨Nat.le_trans hS.1 (by rw [z1, hH.1]; omega), fun x g1 g2 => (o1 x (by rw [← hH.1]; exact Nat.lt_of_lt_of_le g1 hS.1)).trans (hS.2.1 x g1 g2), hS.2.2⟩
  have KK := K p l e Rm s m args below meth c0 n0 s0 Q H1 locs LS C0 ⟨hn.1, Nat.le_succ_of_le hn.2.1, Nat.le_trans hn.2.2.1 (Nat.le_add_right _ _), hn.2.2.2⟩ ⟨by rw [z1]; show _ = G.1 + (h.1.1 + 1); omega, hP1, hz⟩ hS1 hL hQ
  have e2 : (zadd h c N N).1.1 - n0 = h.1.1 - n0 + 1 := by show h.1.1 + 1 - n0 = _; omega
  have e3 : (zadd h c N N).1.2.1 - s0 = h.1.2.1 - s0 + N := by show h.1.2.1 + N - s0 = _; omega
  rw [e2, e3, List.map_cons, ztv_lt (by omega)] at KK
  exact KK
end ZCALLS
