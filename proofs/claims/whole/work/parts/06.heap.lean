/-! RULES of the heap: fields, arrays, the script, new cells -/
/-- the types that fields have here -/
def zkt : FieldType → Bool
  | .int => true
  | .long => true
  | .object _ => true
  | .array _ => true
  | _ => false
/-- a class of the world -/
def zCok (c : Nat) (C : String) (T : u_T) (N : Nat) : Prop := vwCl[c]? = some (C, T, N) ∧ (∀ w ∈ u_ws C T N, w ∈ zU) ∧ (∀ k, k < N → parseFieldDescriptor (T k).2.2.1 = some (zty c k)) ∧ (∀ a, a < N → ∀ b, b < N → a ≠ b → (T a).2.1 ≠ (T b).2.1) ∧ c < 100 ∧ ∀ k, k < N → zkt (zty c k) = true
theorem zc0 : zCok 0 RX0 TX0 0 := ⟨rfl, inX0, tyX0_ok, nmX0, by decide, by decide⟩
theorem zc1 : zCok 1 RX1 TX1 2 := ⟨rfl, inX1, tyX1_ok, nmX1, by decide, by decide⟩
theorem zc2 : zCok 2 RX2 TX2 0 := ⟨rfl, inX2, tyX2_ok, nmX2, by decide, by decide⟩
theorem zc3 : zCok 3 RX3 TX3 1 := ⟨rfl, inX3, tyX3_ok, nmX3, by decide, by decide⟩
theorem zc4 : zCok 4 RX4 TX4 13 := ⟨rfl, inX4, tyX4_ok, nmX4, by decide, by decide⟩
theorem zc5 : zCok 5 RX5 TX5 5 := ⟨rfl, inX5, tyX5_ok, nmX5, by decide, by decide⟩
theorem zc6 : zCok 6 RX6 TX6 0 := ⟨rfl, inX6, tyX6_ok, nmX6, by decide, by decide⟩
theorem zc7 : zCok 7 RX7 TX7 5 := ⟨rfl, inX7, tyX7_ok, nmX7, by decide, by decide⟩
theorem zc8 : zCok 8 RX8 TX8 0 := ⟨rfl, inX8, tyX8_ok, nmX8, by decide, by decide⟩
theorem zc9 : zCok 9 RX9 TX9 0 := ⟨rfl, inX9, tyX9_ok, nmX9, by decide, by decide⟩
theorem zc10 : zCok 10 RX10 TX10 4 := ⟨rfl, inX10, tyX10_ok, nmX10, by decide, by decide⟩
theorem zc11 : zCok 11 RX11 TX11 15 := ⟨rfl, inX11, tyX11_ok, nmX11, by decide, by decide⟩
theorem zc12 : zCok 12 RX12 TX12 24 := ⟨rfl, inX12, tyX12_ok, nmX12, by decide, by decide⟩
/-- a field's value -/
def zfA (h : zH) (c i k : Nat) : Value := match zfk c k with
  | 0 => .int (h.2.1 i k)
  | 1 => .long (h.2.2.1 i k)
  | _ => h.2.2.2 i k
theorem zfv_eq (G : zG) (h : zH) (c i k : Nat) : zfv G h c i k = ztv G (zfA h c i k) := by
  unfold zfv zfA
  generalize zfk c k = q
  rcases q with _ | _ | q <;> rfl
section ZHEAP
variable {G : zG} {d : Nat} {M : zM} {pc : Nat} {ls : List (Option Value)} {st : List Value} {h : zH} {R : zR}
theorem zi_get {ix i c k N : Nat} {C : String} {T : u_T} {v : Value} (hd : decode M.2.1 pc = .ok (.getfield ix, 3)) (hc : zCok c C T N) (hs : h.1.2.2 i = (c, N)) (hi : i < h.1.1) (hk : k < N) (hl : Cond.fieldLink M.1.cls ix (T k).1 (T k).2.1 (T k).2.2.1 ∈ zU) (hv : zfA h c i k = v) (K : zA G d M (pc + 3) ls (v :: st) h R) : zA G d M pc ls (.ref i :: st) h R := by
  intro p l e Rm s m args below meth c0 n0 s0 Q H locs LS C0 hn hH hS hL hQ
  have hi2 : i < 1000 := Nat.lt_of_lt_of_le hi hH.2.2
  have hw := zw_get (G := G) hi
  rw [zce_o hs hc.2.2.2.2.1] at hw
  show W p l e Rm s m args below meth c0 H locs _ _ Q (F0 m pc LS (ztv G (.ref i) :: st.map (ztv G)))
  rw [ztv_lt hi2]
  refine va_get (D := G.2.2.1) (ci := c) (v := ztv G v) C0.1 C0.2.1 C0.2.2.2.2.1 hc.2.1 C0.2.2.2.1 C0.2.2.2.2.2.1.1 hH.2.1 i hw hc.1 k hk (C0.2.2.2.2.1 _ hl) (fun _ q => q) ?_ hd (K p l e Rm s m args below meth c0 n0 s0 Q H locs LS C0 hn hH hS hL hQ)
  rw [List.getElem?_map, List.getElem?_range hk, ← hv, ← zfv_eq]
  rfl
/-- what a written field makes of a cell -/
theorem zput_w {G : zG} {h h' : zH} {i c k N : Nat} (hc : c < 100) (hs : h.1.2.2 i = (c, N)) (hS : h'.1 = h.1) (hI : ∀ j, j ≠ i → h'.2.1 j = h.2.1 j ∧ h'.2.2.1 j = h.2.2.1 j ∧ h'.2.2.2 j = h.2.2.2 j) (ho : ∀ j, j ≠ k → zfv G h' c i j = zfv G h c i j) :
    (zw G h).set i (G.1 + i, .inr (c, ((List.range N).map (zfv G h c i)).set k (zfv G h' c i k))) = zw G h' := by
  refine zw_set (by rw [hS]) ?_ (fun j hj => zce_congr (by rw [hS]) (hI j hj).1 (hI j hj).2.1 (hI j hj).2.2)
  rw [zce_o (by rw [hS]; exact hs) hc]
  congr 2
  apply List.ext_getElem?
  intro j
  by_cases hj : j < N
  · by_cases hjk : j = k
    · subst hjk
      rw [List.getElem?_set_self (by simpa using hj), List.getElem?_map, List.getElem?_range hj]
      rfl
    · rw [List.getElem?_set_ne (fun q => hjk q.symm), List.getElem?_map, List.getElem?_map, List.getElem?_range hj]
      simp [ho j hjk]
  · rw [List.getElem?_eq_none (by simpa using hj), List.getElem?_eq_none (by simpa using hj)]
/-- the three kinds of written fields, in one: v the value, h' the state behind it; a final one in a constructor of its class -/
theorem zi_put {ix i c k N : Nat} {C : String} {T : u_T} {v : Value} {h' : zH} (hd : decode M.2.1 pc = .ok (.putfield ix, 3)) (hc : zCok c C T N) (hs : h.1.2.2 i = (c, N)) (hi : i < h.1.1) (hk : k < N) (hl : Cond.fieldLink M.1.cls ix (T k).1 (T k).2.1 (T k).2.2.1 ∈ zU) (hf : (T k).2.2.2 = false ∨ ((T k).2.2.2 = true ∧ M.1.name = "<init>" ∧ (T k).1 = M.1.cls))
    (hS' : h'.1 = h.1) (hI : ∀ j, j ≠ i → h'.2.1 j = h.2.1 j ∧ h'.2.2.1 j = h.2.2.1 j ∧ h'.2.2.2 j = h.2.2.2 j) (ho : ∀ j, j ≠ k → zfA h' c i j = zfA h c i j) (hv : zfA h' c i k = v) (hn0 : ∀ G : zG, narrow (zty c k) (ztv G v) = ztv G v ∧ fits (zty c k) (ztv G v) = true) (K : zA G d M (pc + 3) ls st h' R) : zA G d M pc ls (v :: .ref i :: st) h R := by
  intro p l e Rm s m args below meth c0 n0 s0 Q H locs LS C0 hn hH hS hL hQ
  have hi2 : i < 1000 := Nat.lt_of_lt_of_le hi hH.2.2
  have hw := zw_get (G := G) hi
  rw [zce_o hs hc.2.2.2.2.1] at hw
  have he := zput_w (G := G) (h := h) (h' := h') (i := i) (c := c) (k := k) (N := N) hc.2.2.2.2.1 hs hS' hI (fun j hj => by rw [zfv_eq, zfv_eq, ho j hj])
  rw [zfv_eq G h' c i k, hv] at he
  show W p l e Rm s m args below meth c0 H locs _ _ Q (F0 m pc LS (ztv G v :: ztv G (.ref i) :: st.map (ztv G)))
  rw [ztv_lt hi2]
  have KK : ∀ (H1 : Heap) (locs1 : List Loc), H1.size = H.size → va_P G.2.2.1 vwCl ((zw G h).set i (G.1 + i, .inr (c, ((List.range N).map (zfv G h c i)).set k (ztv G v)))) H1 → va_S (zO G) s.heap H1 locs1 → W p l e Rm s m args below meth c0 H1 locs1 (h.1.1 - n0) (h.1.2.1 - s0) Q (F0 m (pc + 3) LS (st.map (ztv G))) := by
    intro H1 locs1 hz hP1 hS1
    rw [he] at hP1
    have := K p l e Rm s m args below meth c0 n0 s0 Q H1 locs1 LS C0 (by rw [hS']; exact hn) ⟨by rw [hz, hS']; exact hH.1, hP1, by rw [hS']; exact hH.2.2⟩ hS1 hL hQ
    rw [hS'] at this
    exact this
  have hK := C0.2.2.2.2.2.1.1
  have hap := va_apart (own := M.1.cls) C0.2.2.2.2.1 hc.2.1 (zty c) hc.2.2.1 hc.2.2.2.1 hK hc.1
  obtain ⟨r, h1, cell, q1, q2, q3, q4⟩ := hH.2.1 i _ hw
  have hr : r = (C, T, N) := Option.some.inj (h1.symm.trans hc.1)
  subst hr
  obtain ⟨hSl, hfc, kC, hkC, hkind⟩ := hK.1 c _ hc.1
  obtain ⟨cf, kf, fi, f, hfi, hsl⟩ := hSl k hk
  have hlay := C0.2.2.2.2.1 _ (hc.2.1 _ (u_in_lay hk))
  unfold u_lay at hlay
  have hst := (u_facts hfc hkC (u_lays C0.2.2.2.2.1 hc.2.1 hk) hfi).1
  have hlen : k < ((List.range N).map (zfv G h c i)).length := by simpa using hk
  rcases hf with hfin | ⟨hfin, hinit, hdecl⟩
  · rw [if_neg (by rw [hfin]; decide)] at hlay
    have h6 := u_store hfc hkC hkind hlay hfi (hc.2.2.1 k hk) (hn0 G).1 (hn0 G).2
    refine W.putK C0.1 C0.2.1 (f := f) ⟨C0.2.2.2.1, C0.2.2.2.2.1 _ hl, ⟨_, _, _, hfi⟩, hst⟩ (by rw [q2]; exact h6) q1 q3 (by rw [hsl]; exact k2_hasslot (q4 k hk)) rfl rfl hd fun H' e1 e2 e3 => ?_
    rw [hsl] at e1 ⊢
    exact KK H' _ e2 (hH.2.1.set zD hw ⟨_, hc.1, t_OB.to (V := updV (vp_V _) k (ztv G v)) ⟨_, e1, q2, q3, t_set q4 hap hk (ztv G v)⟩ (fun j _ => vp_updV_set hlen (ztv G v) j)⟩ e3) (hS.put e2 e3 (zD.2 i _ hw))
  · rw [if_pos hfin] at hlay
    have hcf : m.cls = cf := by
      obtain ⟨_, _, c', _, _, _, -, -, hf', -, -, -, hown2, -⟩ := Cond.laysFinal_spec hlay
      have e1 : c' = cf := by have := hfi.symm.trans hf'; simp at this; exact this.1.symm
      rw [hdecl] at hown2
      rw [← e1]; exact Option.some.inj (C0.2.2.2.1.symm.trans hown2)
    have h6 := u_fits hfc hkC hkind (Or.inr hlay) hfi (hc.2.2.1 k hk) (hn0 G).1 (hn0 G).2
    refine W.putFinK C0.1 C0.2.1 C0.2.2.2.1 (C0.2.2.2.2.1 _ hl) hfi hst hcf (C0.2.2.2.2.2.2.1.trans hinit) (by rw [q2]; exact h6) q1 q3 (by rw [hsl]; exact k2_hasslot (q4 k hk)) rfl rfl hd fun H' e1 e2 e3 => ?_
    rw [hsl] at e1 ⊢
    exact KK H' _ e2 (hH.2.1.set zD hw ⟨_, hc.1, t_OB.to (V := updV (vp_V _) k (ztv G v)) ⟨_, e1, q2, q3, t_set q4 hap hk (ztv G v)⟩ (fun j _ => vp_updV_set hlen (ztv G v) j)⟩ e3) (hS.put e2 e3 (zD.2 i _ hw))
theorem zi_putI {ix i c k N : Nat} {C : String} {T : u_T} {x : Int32} (hd : decode M.2.1 pc = .ok (.putfield ix, 3)) (hc : zCok c C T N) (hs : h.1.2.2 i = (c, N)) (hi : i < h.1.1) (hk : k < N) (hl : Cond.fieldLink M.1.cls ix (T k).1 (T k).2.1 (T k).2.2.1 ∈ zU) (hf : (T k).2.2.2 = false) (ht : zty c k = .int) (K : zA G d M (pc + 3) ls st (h.1, zup h.2.1 i k x, h.2.2.1, h.2.2.2) R) : zA G d M pc ls (.int x :: .ref i :: st) h R := by
  refine zi_put (h' := (h.1, zup h.2.1 i k x, h.2.2.1, h.2.2.2)) hd hc hs hi hk hl (Or.inl hf) rfl (fun j hj => ⟨zup_ne hj, rfl, rfl⟩) (fun j hj => ?_) ?_ (fun G => ?_) K
  · simp [zfA, zup, hj]
  · simp [zfA, zfk, ht, zup]
  · rw [ht]; exact ⟨rfl, rfl⟩
theorem zi_putL {ix i c k N : Nat} {C : String} {T : u_T} {x : Int64} (hd : decode M.2.1 pc = .ok (.putfield ix, 3)) (hc : zCok c C T N) (hs : h.1.2.2 i = (c, N)) (hi : i < h.1.1) (hk : k < N) (hl : Cond.fieldLink M.1.cls ix (T k).1 (T k).2.1 (T k).2.2.1 ∈ zU) (hf : (T k).2.2.2 = false) (ht : zty c k = .long) (K : zA G d M (pc + 3) ls st (h.1, h.2.1, zupL h.2.2.1 i k x, h.2.2.2) R) : zA G d M pc ls (.long x :: .ref i :: st) h R := by
  refine zi_put (h' := (h.1, h.2.1, zupL h.2.2.1 i k x, h.2.2.2)) hd hc hs hi hk hl (Or.inl hf) rfl (fun j hj => ⟨rfl, zupL_ne hj, rfl⟩) (fun j hj => ?_) ?_ (fun G => ?_) K
  · simp [zfA, zupL, hj]
  · simp [zfA, zfk, ht, zupL]
  · rw [ht]; exact ⟨rfl, rfl⟩
/-- which types are references' -/
def zrt : FieldType → Bool
  | .object _ => true
  | .array _ => true
  | _ => false
theorem zrt_ok {ty : FieldType} (h : zrt ty = true) (a : Nat) : narrow ty (.ref a) = .ref a ∧ fits ty (.ref a) = true := by cases ty <;> simp_all [zrt, narrow, fits]
theorem zi_putF {ix i c k N j0 : Nat} {C : String} {T : u_T} (hd : decode M.2.1 pc = .ok (.putfield ix, 3)) (hc : zCok c C T N) (hs : h.1.2.2 i = (c, N)) (hi : i < h.1.1) (hk : k < N) (hl : Cond.fieldLink M.1.cls ix (T k).1 (T k).2.1 (T k).2.2.1 ∈ zU) (hf : (T k).2.2.2 = false ∨ ((T k).2.2.2 = true ∧ M.1.name = "<init>" ∧ (T k).1 = M.1.cls)) (ht : zrt (zty c k) = true) (K : zA G d M (pc + 3) ls st (h.1, h.2.1, h.2.2.1, zupF h.2.2.2 i k (.ref j0)) R) : zA G d M pc ls (.ref j0 :: .ref i :: st) h R := by
  have h2 : zfk c k = 2 := by
    unfold zfk
    cases hz : zty c k <;> simp_all [zrt]
  refine zi_put (h' := (h.1, h.2.1, h.2.2.1, zupF h.2.2.2 i k (.ref j0))) hd hc hs hi hk hl hf rfl (fun j hj => ⟨rfl, rfl, zupF_ne hj⟩) (fun j hj => ?_) ?_ (fun G => zrt_ok ht _) K
  · simp [zfA, zupF, hj]
  · simp [zfA, h2, zupF]
theorem zi_iaload {i n : Nat} {j : Int32} (hd : decode M.2.1 pc = .ok (.iaload, 1)) (hs : h.1.2.2 i = (100, n)) (hi : i < h.1.1) (hj : vp_in j n) (K : zA G d M (pc + 1) ls (.int (h.2.1 i j.toNatClampNeg) :: st) h R) : zA G d M pc ls (.int j :: .ref i :: st) h R := by
  intro p l e Rm s m args below meth c0 n0 s0 Q H locs LS C0 hn hH hS hL hQ
  have hi2 : i < 1000 := Nat.lt_of_lt_of_le hi hH.2.2
  have hw := zw_get (G := G) hi
  rw [zce_i hs] at hw
  show W p l e Rm s m args below meth c0 H locs _ _ Q (F0 m pc LS (.int j :: ztv G (.ref i) :: st.map (ztv G)))
  rw [ztv_lt hi2]
  exact va_iald C0.1 C0.2.1 C0.2.2.2.2.2.1.1 hH.2.1 i 0 hw rfl hj hd (K p l e Rm s m args below meth c0 n0 s0 Q H locs LS C0 hn hH hS hL hQ)
theorem zi_zaload {i n : Nat} {j : Int32} (hd : decode M.2.1 pc = .ok (.baload, 1)) (hs : h.1.2.2 i = (101, n)) (hi : i < h.1.1) (hj : vp_in j n) (K : zA G d M (pc + 1) ls (.int (h.2.1 i j.toNatClampNeg) :: st) h R) : zA G d M pc ls (.int j :: .ref i :: st) h R := by
  intro p l e Rm s m args below meth c0 n0 s0 Q H locs LS C0 hn hH hS hL hQ
  have hi2 : i < 1000 := Nat.lt_of_lt_of_le hi hH.2.2
  have hw := zw_get (G := G) hi
  rw [zce_z hs] at hw
  show W p l e Rm s m args below meth c0 H locs _ _ Q (F0 m pc LS (.int j :: ztv G (.ref i) :: st.map (ztv G)))
  rw [ztv_lt hi2]
  exact va_zald C0.1 C0.2.1 C0.2.2.2.2.2.1.1 hH.2.1 i 1 hw rfl hj hd (K p l e Rm s m args below meth c0 n0 s0 Q H locs LS C0 hn hH hS hL hQ)
theorem zwI_set {G : zG} {h : zH} {i n k : Nat} {cA : ClassId} {f : Nat → Int32} (hk : (k = 100 ∧ cA = G.2.1.1) ∨ (k = 101 ∧ cA = G.2.1.2)) (hs : h.1.2.2 i = (k, n)) : (zw G h).set i (G.1 + i, .inl (cA, n, .inl f)) = zw G (h.1, zrow h.2.1 i f, h.2.2.1, h.2.2.2) := by
  refine zw_set (h' := (h.1, zrow h.2.1 i f, h.2.2.1, h.2.2.2)) rfl ?_ (fun j hj => zce_congr rfl (zrow_ne hj) rfl rfl)
  rcases hk with ⟨rfl, rfl⟩ | ⟨rfl, rfl⟩
  · rw [zce_i (h := (h.1, zrow h.2.1 i f, h.2.2.1, h.2.2.2)) hs]
    simp only [zrow_self]
  · rw [zce_z (h := (h.1, zrow h.2.1 i f, h.2.2.1, h.2.2.2)) hs]
    simp only [zrow_self]
theorem va_P.size_eq {D : va_G} {cl : List vw_C} {ws : va_W} {H : Heap} (h : va_P D cl ws H) : ∀ (k : Nat) (q : Nat × va_E), ws[k]? = some q → q.1 < H.size := fun k q hq => (h k q hq).lt
theorem zi_iastore {i n : Nat} {j x : Int32} (hd : decode M.2.1 pc = .ok (.iastore, 1)) (hs : h.1.2.2 i = (100, n)) (hi : i < h.1.1) (hj : vp_in j n) (K : zA G d M (pc + 1) ls st (h.1, zup h.2.1 i j.toNatClampNeg x, h.2.2.1, h.2.2.2) R) : zA G d M pc ls (.int x :: .int j :: .ref i :: st) h R := by
  intro p l e Rm s m args below meth c0 n0 s0 Q H locs LS C0 hn hH hS hL hQ
  have hi2 : i < 1000 := Nat.lt_of_lt_of_le hi hH.2.2
  have hw := zw_get (G := G) hi
  rw [zce_i hs] at hw
  show W p l e Rm s m args below meth c0 H locs _ _ Q (F0 m pc LS (.int x :: .int j :: ztv G (.ref i) :: st.map (ztv G)))
  rw [ztv_lt hi2]
  have hK := C0.2.2.2.2.2.1.1
  refine W.iast C0.1 C0.2.1 (hH.2.1 i _ hw) ((hK.2 0 _ rfl).1 n (fun j => .int (h.2.1 i j))) (fun q => by cases q) (by show ¬ (j < 0 ∨ (arrV _ _ _).slots.size ≤ _); rw [arrV_size]; exact hj) rfl rfl hd fun H1 e1 z oq => ?_
  have hP1 : va_P G.2.2.1 vwCl ((zw G h).set i (G.1 + i, .inl (G.2.1.1, n, .inl (upd (h.2.1 i) j.toNatClampNeg x)))) H1 := by
    refine hH.2.1.set zD hw ?_ oq
    show H1[G.1 + i]? = some (vp_cell _ _)
    rw [e1, vp_cell_i, vp_cell_i, arrV_store]
    congr 2
    funext q
    by_cases hq : q = j.toNatClampNeg
    · subst hq
      simp [updV, upd]
    · simp [updV, upd, hq]
  rw [zwI_set (Or.inl ⟨rfl, rfl⟩) hs, ← zup_row] at hP1
  exact K p l e Rm s m args below meth c0 n0 s0 Q H1 _ LS C0 hn ⟨by rw [z]; exact hH.1, hP1, hH.2.2⟩ (hS.put z oq (zD.2 i _ hw)) hL hQ
theorem zi_arraylength {i n : Nat} (hd : decode M.2.1 pc = .ok (.arraylength, 1)) (hs : h.1.2.2 i = (100, n)) (hi : i < h.1.1) (K : zA G d M (pc + 1) ls (.int (nI n) :: st) h R) : zA G d M pc ls (.ref i :: st) h R := by
  intro p l e Rm s m args below meth c0 n0 s0 Q H locs LS C0 hn hH hS hL hQ
  have hi2 : i < 1000 := Nat.lt_of_lt_of_le hi hH.2.2
  have hw := zw_get (G := G) hi
  rw [zce_i hs] at hw
  show W p l e Rm s m args below meth c0 H locs _ _ Q (F0 m pc LS (ztv G (.ref i) :: st.map (ztv G)))
  rw [ztv_lt hi2]
  exact va_alen C0.1 C0.2.1 C0.2.2.2.2.2.1.1 hH.2.1 i 0 hw rfl rfl hd (K p l e Rm s m args below meth c0 n0 s0 Q H locs LS C0 hn hH hS hL hQ)
end ZHEAP
