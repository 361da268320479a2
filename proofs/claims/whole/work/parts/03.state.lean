/-! THE ABSTRACT MACHINE: a state is a shape (cells, slots, what each cell is), ints, longs, references, all by cell and place. Cell i stands at the address base + i. -/
abbrev zM : Type := MethodName × ByteArray × Nat × Option FieldType
abbrev zS : Type := Nat × Nat × (Nat → Nat × Nat)
abbrev zH : Type := zS × (Nat → Nat → Int32) × (Nat → Nat → Int64) × (Nat → Nat → Value)
abbrev zR : Type := Option Value × zH
/-- base; the classes of int and boolean arrays; the tables; where texts and their bytes stand; the script -/
abbrev zG : Type := Nat × (ClassId × ClassId) × va_G × ((Nat → Nat) × (Nat → Nat)) × (Nat × Nat × (Nat → Int32) × Nat)
def zad (G : zG) (i : Nat) : Nat := if i < 1000 then G.1 + i else if i < 1100 then G.2.2.2.1.1 (i - 1000) else if i < 2000 then G.2.2.2.1.2 (i - 1100) else if i < 3000 then G.2.2.2.2.1 else G.2.2.2.2.2.2.2
def ztv (G : zG) : Value → Value
  | .ref i => .ref (zad G i)
  | v => v
theorem ztv_cat (G : zG) (v : Value) : (ztv G v).category = v.category := by cases v <;> rfl
theorem ztv_cats (G : zG) (vs : List Value) : ((vs.map (ztv G)).map fun v => v.category) = vs.map fun v => v.category := by
  rw [List.map_map]
  exact List.map_congr_left fun v _ => ztv_cat G v
def zty (c : Nat) : Nat → FieldType := match c with
  | 0 => tyX0
  | 1 => tyX1
  | 2 => tyX2
  | 3 => tyX3
  | 4 => tyX4
  | 5 => tyX5
  | 6 => tyX6
  | 7 => tyX7
  | 8 => tyX8
  | 9 => tyX9
  | 10 => tyX10
  | 11 => tyX11
  | _ => tyX12
/-- kind of a field: 0 int, 1 long, 2 reference -/
def zfk (c k : Nat) : Nat := match zty c k with
  | .int => 0
  | .long => 1
  | _ => 2
def zfv (G : zG) (h : zH) (c i k : Nat) : Value := match zfk c k with
  | 0 => .int (h.2.1 i k)
  | 1 => .long (h.2.2.1 i k)
  | _ => ztv G (h.2.2.2 i k)
def zce (G : zG) (h : zH) (i : Nat) : va_E :=
  if (h.1.2.2 i).1 = 100 then .inl (G.2.1.1, (h.1.2.2 i).2, .inl (h.2.1 i))
  else if (h.1.2.2 i).1 = 101 then .inl (G.2.1.2, (h.1.2.2 i).2, .inl (h.2.1 i))
  else .inr ((h.1.2.2 i).1, (List.range (h.1.2.2 i).2).map (zfv G h (h.1.2.2 i).1 i))
def zw (G : zG) (h : zH) : va_W := (List.range h.1.1).map (fun i => (G.1 + i, zce G h i))
def zO (G : zG) : Nat → Prop := fun q => G.1 ≤ q
def zup (I : Nat → Nat → Int32) (i j : Nat) (x : Int32) : Nat → Nat → Int32 := fun a b => if a = i ∧ b = j then x else I a b
def zupL (I : Nat → Nat → Int64) (i j : Nat) (x : Int64) : Nat → Nat → Int64 := fun a b => if a = i ∧ b = j then x else I a b
def zupF (I : Nat → Nat → Value) (i j : Nat) (x : Value) : Nat → Nat → Value := fun a b => if a = i ∧ b = j then x else I a b
/-- a row of ints laid over cell i -/
def zrow (I : Nat → Nat → Int32) (i : Nat) (f : Nat → Int32) : Nat → Nat → Int32 := fun a b => if a = i then f b else I a b
theorem zup_row (I : Nat → Nat → Int32) (i j : Nat) (x : Int32) : zup I i j x = zrow I i (upd (I i) j x) := by
  funext a b
  by_cases ha : a = i
  · subst ha
    simp [zup, zrow, upd]
  · simp [zup, zrow, ha]
theorem zw_len (G : zG) (h : zH) : (zw G h).length = h.1.1 := by simp [zw]
theorem zw_get {G : zG} {h : zH} {i : Nat} (hi : i < h.1.1) : (zw G h)[i]? = some (G.1 + i, zce G h i) := by
  simp [zw, hi]
theorem zw_get' {G : zG} {h : zH} {i : Nat} {q : Nat × va_E} (hq : (zw G h)[i]? = some q) : i < h.1.1 ∧ q = (G.1 + i, zce G h i) := by
  have hi : i < h.1.1 := by
    have := (List.getElem?_eq_some_iff.mp hq).1
    rwa [zw_len] at this
  rw [zw_get hi] at hq
  exact ⟨hi, (Option.some.inj hq).symm⟩
/-- one cell is changed -/
theorem zw_set {G : zG} {h h' : zH} {i : Nat} {e : va_E} (hn : h'.1.1 = h.1.1) (he : zce G h' i = e) (ho : ∀ j, j ≠ i → zce G h' j = zce G h j) : (zw G h).set i (G.1 + i, e) = zw G h' := by
  apply List.ext_getElem?
  intro j
  by_cases hj : j < h.1.1
  · rw [zw_get (h := h') (by rw [hn]; exact hj)]
    by_cases hij : j = i
    · subst hij
      rw [List.getElem?_set_self (by rw [zw_len]; exact hj), he]
    · rw [List.getElem?_set_ne (fun q => hij q.symm), zw_get hj, ho j hij]
  · rw [List.getElem?_eq_none (by rw [List.length_set, zw_len]; omega), List.getElem?_eq_none (by rw [zw_len, hn]; omega)]
/-- a cell comes -/
theorem zw_push {G : zG} {h h' : zH} {e : va_E} (hn : h'.1.1 = h.1.1 + 1) (he : zce G h' h.1.1 = e) (ho : ∀ j, j < h.1.1 → zce G h' j = zce G h j) : zw G h ++ [(G.1 + h.1.1, e)] = zw G h' := by
  apply List.ext_getElem?
  intro j
  by_cases hj : j < h.1.1
  · rw [zw_get (h := h') (by rw [hn]; omega), List.getElem?_append_left (by rw [zw_len]; exact hj), zw_get hj, ho j hj]
  · by_cases hj2 : j = h.1.1
    · subst hj2
      rw [zw_get (h := h') (by rw [hn]; omega), List.getElem?_append_right (by rw [zw_len]; exact Nat.le_refl _), zw_len, Nat.sub_self, he]
      rfl
    · rw [List.getElem?_eq_none (by rw [List.length_append, zw_len]; simp; omega), List.getElem?_eq_none (by rw [zw_len, hn]; omega)]
theorem zD {G : zG} {h : zH} : va_D (zO G) (zw G h) := by
  refine ⟨fun i j p q hp hq e => ?_, fun k q hq => ?_⟩
  · obtain ⟨-, rfl⟩ := zw_get' hp
    obtain ⟨-, rfl⟩ := zw_get' hq
    simp at e
    exact e
  · obtain ⟨-, rfl⟩ := zw_get' hq
    exact Nat.le_add_right _ _
def zHr (G : zG) (h : zH) (H : Heap) : Prop := H.size = G.1 + h.1.1 ∧ va_P G.2.2.1 vwCl (zw G h) H ∧ h.1.1 ≤ 1000
theorem zad_lt {G : zG} {i : Nat} (h : i < 1000) : zad G i = G.1 + i := by simp [zad, h]
theorem ztv_lt {G : zG} {i : Nat} (h : i < 1000) : ztv G (.ref i) = .ref (G.1 + i) := by simp [ztv, zad_lt h]
/-- an int array -/
theorem zce_i {G : zG} {h : zH} {i n : Nat} (hs : h.1.2.2 i = (100, n)) : zce G h i = .inl (G.2.1.1, n, .inl (h.2.1 i)) := by simp [zce, hs]
theorem zce_z {G : zG} {h : zH} {i n : Nat} (hs : h.1.2.2 i = (101, n)) : zce G h i = .inl (G.2.1.2, n, .inl (h.2.1 i)) := by simp [zce, hs]
theorem zce_o {G : zG} {h : zH} {i c n : Nat} (hs : h.1.2.2 i = (c, n)) (hc : c < 100) : zce G h i = .inr (c, (List.range n).map (zfv G h c i)) := by
  have h1 : ¬ c = 100 := by omega
  have h2 : ¬ c = 101 := by omega
  simp [zce, hs, h1, h2]
theorem zce_congr {G : zG} {h h' : zH} {i : Nat} (hs : h'.1.2.2 i = h.1.2.2 i) (hI : h'.2.1 i = h.2.1 i) (hL : h'.2.2.1 i = h.2.2.1 i) (hF : h'.2.2.2 i = h.2.2.2 i) : zce G h' i = zce G h i := by
  have hz : ∀ c, zfv G h' c i = zfv G h c i := by
    intro c
    funext k
    simp only [zfv, hI, hL, hF]
  simp only [zce, hs, hI, hz]
theorem zup_ne {I : Nat → Nat → Int32} {i j : Nat} {x : Int32} {a : Nat} (h : a ≠ i) : zup I i j x a = I a := by
  funext b
  simp [zup, h]
theorem zupL_ne {I : Nat → Nat → Int64} {i j : Nat} {x : Int64} {a : Nat} (h : a ≠ i) : zupL I i j x a = I a := by
  funext b
  simp [zupL, h]
theorem zupF_ne {I : Nat → Nat → Value} {i j : Nat} {x : Value} {a : Nat} (h : a ≠ i) : zupF I i j x a = I a := by
  funext b
  simp [zupF, h]
theorem zup_self (I : Nat → Nat → Int32) (i j : Nat) (x : Int32) : zup I i j x i = upd (I i) j x := by
  funext b
  simp [zup, upd]
theorem zrow_ne {I : Nat → Nat → Int32} {i : Nat} {f : Nat → Int32} {a : Nat} (h : a ≠ i) : zrow I i f a = I a := by
  funext b
  simp [zrow, h]
theorem zrow_self (I : Nat → Nat → Int32) (i : Nat) (f : Nat → Int32) : zrow I i f i = f := by
  funext b
  simp [zrow]
/-! locals -/
def zk2 : Option Value → Option Value
  | some (.long _) => none
  | some (.double _) => none
  | o => o
def zst : List (Option Value) → Nat → Value → List (Option Value)
  | [], _, _ => []
  | _ :: t, 0, v => some v :: t
  | a :: b :: t, 1, v => zk2 a :: some v :: t
  | [a], 1, _ => [zk2 a]
  | a :: t, k + 2, v => a :: zst t (k + 1) v
def zst2 (ls : List (Option Value)) (i : Nat) (v : Value) : List (Option Value) := (zst ls i v).set (i + 1) none
theorem zk2_some {o : Option Value} {w : Value} (h : zk2 o = some w) : o = some w ∧ ¬ w.category = 2 := by
  cases o with
  | none => simp [zk2] at h
  | some v => cases v <;> simp_all [zk2] <;> (subst h; simp [Value.category])
theorem zst_spec : ∀ (ls : List (Option Value)) (i : Nat) (v : Value) (k : Nat) (w : Value), (zst ls i v)[k]? = some (some w) → (k = i ∧ w = v) ∨ (k ≠ i ∧ ls[k]? = some (some w) ∧ ¬ (k + 1 = i ∧ w.category = 2))
  | [], i, v, k, w, h => by simp [zst] at h
  | a :: t, 0, v, k, w, h => by
    cases k with
    | zero => simp [zst] at h; exact Or.inl ⟨rfl, h.symm⟩
    | succ k => simp [zst] at h; exact Or.inr ⟨by omega, by simpa using h, by omega⟩
  | a :: b :: t, 1, v, k, w, h => by
    match k with
    | 0 =>
      simp [zst] at h
      obtain ⟨h1, h2⟩ := zk2_some h
      exact Or.inr ⟨by omega, by simp [h1], fun q => h2 q.2⟩
    | 1 => simp [zst] at h; exact Or.inl ⟨rfl, h.symm⟩
    | k + 2 => simp [zst] at h; exact Or.inr ⟨by omega, by simpa using h, by omega⟩
  | [a], 1, v, k, w, h => by
    match k with
    | 0 =>
      simp [zst] at h
      obtain ⟨h1, h2⟩ := zk2_some h
      exact Or.inr ⟨by omega, by simp [h1], fun q => h2 q.2⟩
    | k + 1 => simp [zst] at h
  | a :: t, i + 2, v, k, w, h => by
    match k with
    | 0 =>
      simp [zst] at h
      exact Or.inr ⟨by omega, by simp [h], by omega⟩
    | k + 1 =>
      simp [zst] at h
      rcases zst_spec t (i + 1) v k w h with ⟨h1, h2⟩ | ⟨h1, h2, h3⟩
      · exact Or.inl ⟨by omega, h2⟩
      · exact Or.inr ⟨by omega, by simpa using h2, fun q => h3 ⟨by omega, q.2⟩⟩
theorem zst2_spec {ls : List (Option Value)} {i : Nat} {v : Value} {k : Nat} {w : Value} (h : (zst2 ls i v)[k]? = some (some w)) : (k = i ∧ w = v) ∨ (k ≠ i ∧ k ≠ i + 1 ∧ ls[k]? = some (some w) ∧ ¬ (k + 1 = i ∧ w.category = 2)) := by
  unfold zst2 at h
  by_cases hk : k = i + 1
  · subst hk
    rw [List.getElem?_set] at h
    simp at h
  · rw [List.getElem?_set_ne (fun q => hk q.symm)] at h
    rcases zst_spec _ _ _ _ _ h with q | ⟨q1, q2, q3⟩
    · exact Or.inl q
    · exact Or.inr ⟨q1, hk, q2, q3⟩
/-- the locals' relation -/
def zLr (G : zG) (ls : List (Option Value)) (n : Nat) (LS : Array Slot) : Prop := LS.size = n ∧ lv_wf LS ∧ ∀ (k : Nat) (v : Value), ls[k]? = some (some v) → LS[k]? = some (.val (ztv G v))
def zll (G : zG) (ls : List (Option Value)) : List (Nat × Value) := ls.zipIdx.filterMap (fun q => q.1.map (fun v => (q.2, ztv G v)))
theorem zll_mem {G : zG} {ls : List (Option Value)} {q : Nat × Value} : q ∈ zll G ls ↔ ∃ v, ls[q.1]? = some (some v) ∧ q.2 = ztv G v := by
  unfold zll
  rw [List.mem_filterMap]
  constructor
  · rintro ⟨⟨o, k⟩, h1, h2⟩
    rw [List.mem_zipIdx_iff_getElem?] at h1
    cases o with
    | none => simp at h2
    | some v =>
      simp at h2
      subst h2
      exact ⟨v, by simpa using h1, rfl⟩
  · rintro ⟨v, h1, h2⟩
    refine ⟨(some v, q.1), ?_, ?_⟩
    · rw [List.mem_zipIdx_iff_getElem?]
      simpa using h1
    · simp [← h2]
theorem zLr.has {G : zG} {ls : List (Option Value)} {n : Nat} {LS : Array Slot} (h : zLr G ls n LS) : lv_has LS n (zll G ls) := by
  refine ⟨h.1, h.2.1, fun q hq => ?_⟩
  obtain ⟨v, h1, h2⟩ := zll_mem.mp hq
  rw [h2]
  exact h.2.2 _ _ h1
theorem zLr.st1 {G : zG} {ls : List (Option Value)} {n i : Nat} {v : Value} {LS : Array Slot} (h : lv_has LS n ((i, ztv G v) :: (zll G ls).filter (fun q => !(q.1 == i) && !(q.1 + 1 == i && q.2.category == 2)))) : zLr G (zst ls i v) n LS := by
  refine ⟨h.1, h.2.1, fun k w hk => ?_⟩
  rcases zst_spec _ _ _ _ _ hk with ⟨h1, h2⟩ | ⟨h1, h2, h3⟩
  · subst h1; subst h2
    exact h.2.2 (k, ztv G w) List.mem_cons_self
  · refine h.2.2 (k, ztv G w) (List.mem_cons_of_mem _ (List.mem_filter.mpr ⟨zll_mem.mpr ⟨w, h2, rfl⟩, ?_⟩))
    simp [ztv_cat, h1]
    exact Decidable.not_and_iff_or_not.mp h3
theorem zLr.st2 {G : zG} {ls : List (Option Value)} {n i : Nat} {v : Value} {LS : Array Slot} (h : lv_has LS n ((i, ztv G v) :: (zll G ls).filter (fun q => !(q.1 == i) && (!(q.1 == i + 1) && !(q.1 + 1 == i && q.2.category == 2))))) : zLr G (zst2 ls i v) n LS := by
  refine ⟨h.1, h.2.1, fun k w hk => ?_⟩
  rcases zst2_spec hk with ⟨h1, h2⟩ | ⟨h1, h1', h2, h3⟩
  · subst h1; subst h2
    exact h.2.2 (k, ztv G w) List.mem_cons_self
  · refine h.2.2 (k, ztv G w) (List.mem_cons_of_mem _ (List.mem_filter.mpr ⟨zll_mem.mpr ⟨w, h2, rfl⟩, ?_⟩))
    simp [ztv_cat, h1, h1']
    exact Decidable.not_and_iff_or_not.mp h3
def zent : List Value → Nat → List (Option Value)
  | [], n => List.replicate n none
  | v :: vs, n => if v.category = 2 then some v :: none :: zent vs (n - 2) else some v :: zent vs (n - 1)
theorem zent_spec {G : zG} : ∀ (vs : List Value) (n i k : Nat) (w : Value), (zent vs n)[k]? = some (some w) → (i + k, ztv G w) ∈ lv_args i (vs.map (ztv G))
  | [], n, i, k, w, h => by
    simp only [zent] at h
    rw [List.getElem?_replicate] at h
    split at h <;> simp at h
  | v :: vs, n, i, k, w, h => by
    simp only [zent] at h
    simp only [List.map_cons, lv_args, ztv_cat]
    by_cases hc : v.category = 2
    · rw [if_pos hc] at h ⊢
      match k with
      | 0 =>
        simp at h
        subst h
        exact List.mem_cons_self
      | 1 => simp at h
      | k + 2 =>
        simp at h
        have := zent_spec (G := G) vs (n - 2) (i + 2) k w h
        rw [show i + (k + 2) = i + 2 + k by omega]
        exact List.mem_cons_of_mem _ this
    · rw [if_neg hc] at h ⊢
      match k with
      | 0 =>
        simp at h
        subst h
        exact List.mem_cons_self
      | k + 1 =>
        simp at h
        have := zent_spec (G := G) vs (n - 1) (i + 1) k w h
        rw [show i + (k + 1) = i + 1 + k by omega]
        exact List.mem_cons_of_mem _ this
