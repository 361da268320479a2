/-! RULES of the judgement, an instruction each -/
theorem zi_dep {G : zG} {d d' : Nat} {M : zM} {pc : Nat} {ls : List (Option Value)} {st : List Value} {h : zH} {R : zR} (hd : d ≤ d') (K : zA G d M pc ls st h R) : zA G d' M pc ls st h R := fun p l e Rm s m args below meth c n0 s0 Q H locs LS C hn hH hS hL hQ => K p l e Rm s m args below meth c n0 s0 Q H locs LS ⟨C.1, C.2.1, C.2.2.1, C.2.2.2.1, C.2.2.2.2.1, C.2.2.2.2.2.1, C.2.2.2.2.2.2.1, Nat.le_trans hd C.2.2.2.2.2.2.2.1, Nat.le_trans (Nat.mul_le_mul_left 64 hd) C.2.2.2.2.2.2.2.2⟩ hn hH hS hL hQ
def zrem (x y : Int32) : Int32 := x - x / y * y
def zremL (x y : Int64) : Int64 := x - x / y * y
/-- an index -/
def zx (j : Int32) : Nat := j.toNatClampNeg
/-- locals forgotten -/
def zmask : List Bool → List (Option Value) → List (Option Value)
  | true :: bs, a :: t => a :: zmask bs t
  | false :: bs, _ :: t => none :: zmask bs t
  | _, _ => []
theorem zmask_spec : ∀ (bs : List Bool) (ls : List (Option Value)) (k : Nat) (v : Value), (zmask bs ls)[k]? = some (some v) → ls[k]? = some (some v)
  | true :: bs, a :: t, 0, v, h => by simpa [zmask] using h
  | true :: bs, a :: t, k + 1, v, h => by simpa using zmask_spec bs t k v (by simpa [zmask] using h)
  | false :: bs, a :: t, 0, v, h => by simp [zmask] at h
  | false :: bs, a :: t, k + 1, v, h => by simpa using zmask_spec bs t k v (by simpa [zmask] using h)
  | [], _, k, v, h => by simp [zmask] at h
  | true :: _, [], k, v, h => by simp [zmask] at h
  | false :: _, [], k, v, h => by simp [zmask] at h
section ZRULES
variable {G : zG} {d : Nat} {M : zM} {pc : Nat} {ls : List (Option Value)} {st : List Value} {h : zH} {R : zR}
theorem zi_iconst {n : Int} {v : Int32} (hd : decode M.2.1 pc = .ok (.iconst n, 1)) (hv : Int32.ofInt n = v) (K : zA G d M (pc + 1) ls (.int v :: st) h R) : zA G d M pc ls (st) h R := by
  intro p l e Rm s m args below meth c n0 s0 Q H locs LS C hn hH hS hL hQ
  exact lv_iconst C.1 C.2.1 hd hv (K p l e Rm s m args below meth c n0 s0 Q H locs LS C hn hH hS hL hQ)
theorem zi_bipush {n : Int} {v : Int32} (hd : decode M.2.1 pc = .ok (.bipush n, 2)) (hv : (Int8.ofInt n).toInt32 = v) (K : zA G d M (pc + 2) ls (.int v :: st) h R) : zA G d M pc ls (st) h R := by
  intro p l e Rm s m args below meth c n0 s0 Q H locs LS C hn hH hS hL hQ
  exact lv_bipush C.1 C.2.1 hd hv (K p l e Rm s m args below meth c n0 s0 Q H locs LS C hn hH hS hL hQ)
theorem zi_sipush {n : Int} {v : Int32} (hd : decode M.2.1 pc = .ok (.sipush n, 3)) (hv : (Int16.ofInt n).toInt32 = v) (K : zA G d M (pc + 3) ls (.int v :: st) h R) : zA G d M pc ls (st) h R := by
  intro p l e Rm s m args below meth c n0 s0 Q H locs LS C hn hH hS hL hQ
  exact lv_sipush C.1 C.2.1 hd hv (K p l e Rm s m args below meth c n0 s0 Q H locs LS C hn hH hS hL hQ)
theorem zi_lconst {n : Fin 2} {v : Int64} (hd : decode M.2.1 pc = .ok (.lconst n, 1)) (hv : Int64.ofNat (n : Nat) = v) (K : zA G d M (pc + 1) ls (.long v :: st) h R) : zA G d M pc ls (st) h R := by
  intro p l e Rm s m args below meth c n0 s0 Q H locs LS C hn hH hS hL hQ
  exact lv_lconst C.1 C.2.1 hd hv (K p l e Rm s m args below meth c n0 s0 Q H locs LS C hn hH hS hL hQ)
theorem zi_ldc {ix : Nat} {v : Int32} (hd : decode M.2.1 pc = .ok (.ldc ix, 2)) (hc : Cond.constant M.1.cls ix v ∈ zU) (K : zA G d M (pc + 2) ls (.int v :: st) h R) : zA G d M pc ls (st) h R := by
  intro p l e Rm s m args below meth c n0 s0 Q H locs LS C hn hH hS hL hQ
  exact lv_ldc C.1 C.2.1 C.2.2.2.1 (C.2.2.2.2.1 _ hc) hd (K p l e Rm s m args below meth c n0 s0 Q H locs LS C hn hH hS hL hQ)
theorem zi_ldcw {ix : Nat} {v : Int32} (hd : decode M.2.1 pc = .ok (.ldc_w ix, 3)) (hc : Cond.constant M.1.cls ix v ∈ zU) (K : zA G d M (pc + 3) ls (.int v :: st) h R) : zA G d M pc ls (st) h R := by
  intro p l e Rm s m args below meth c n0 s0 Q H locs LS C hn hH hS hL hQ
  exact lv_ldcw C.1 C.2.1 C.2.2.2.1 (C.2.2.2.2.1 _ hc) hd (K p l e Rm s m args below meth c n0 s0 Q H locs LS C hn hH hS hL hQ)
theorem zi_ldc2 {ix : Nat} {v : Int64} (hd : decode M.2.1 pc = .ok (.ldc2_w ix, 3)) (hc : Cond.constantLong M.1.cls ix v ∈ zU) (K : zA G d M (pc + 3) ls (.long v :: st) h R) : zA G d M pc ls (st) h R := by
  intro p l e Rm s m args below meth c n0 s0 Q H locs LS C hn hH hS hL hQ
  exact lv_ldc2 C.1 C.2.1 C.2.2.2.1 (C.2.2.2.2.1 _ hc) hd (K p l e Rm s m args below meth c n0 s0 Q H locs LS C hn hH hS hL hQ)
theorem zi_iload_n {k : Fin 4} {i : Nat} {x : Int32} (hd : decode M.2.1 pc = .ok (.iload_n k, 1)) (hi : (k : Nat) = i) (hx : ls[i]? = some (some (.int x))) (K : zA G d M (pc + 1) ls (.int x :: st) h R) : zA G d M pc ls (st) h R := by
  intro p l e Rm s m args below meth c n0 s0 Q H locs LS C hn hH hS hL hQ
  exact lv_iload_n C.1 C.2.1 hd hi (hL.2.2 i _ hx) (K p l e Rm s m args below meth c n0 s0 Q H locs LS C hn hH hS hL hQ)
theorem zi_iload {i : Nat} {x : Int32} (hd : decode M.2.1 pc = .ok (.iload i, 2)) (hx : ls[i]? = some (some (.int x))) (K : zA G d M (pc + 2) ls (.int x :: st) h R) : zA G d M pc ls (st) h R := by
  intro p l e Rm s m args below meth c n0 s0 Q H locs LS C hn hH hS hL hQ
  exact lv_iload C.1 C.2.1 hd (hL.2.2 i _ hx) (K p l e Rm s m args below meth c n0 s0 Q H locs LS C hn hH hS hL hQ)
theorem zi_istore_n {k : Fin 4} {i : Nat} {x : Int32} (hd : decode M.2.1 pc = .ok (.istore_n k, 1)) (hi : (k : Nat) = i) (hb : i < M.2.2.1) {ls' : List (Option Value)} (hl' : zst ls i (.int x) = ls') (K : zA G d M (pc + 1) ls' st h R) : zA G d M pc ls (.int x :: st) h R := by
  subst hl'
  intro p l e Rm s m args below meth c n0 s0 Q H locs LS C hn hH hS hL hQ
  exact lv_istore_n C.1 C.2.1 hd hi hL.has hb rfl (fun LS' hl => K p l e Rm s m args below meth c n0 s0 Q H locs LS' C hn hH hS (zLr.st1 hl) hQ)
theorem zi_istore {i : Nat} {x : Int32} (hd : decode M.2.1 pc = .ok (.istore i, 2)) (hb : i < M.2.2.1) {ls' : List (Option Value)} (hl' : zst ls i (.int x) = ls') (K : zA G d M (pc + 2) ls' st h R) : zA G d M pc ls (.int x :: st) h R := by
  subst hl'
  intro p l e Rm s m args below meth c n0 s0 Q H locs LS C hn hH hS hL hQ
  exact lv_istore C.1 C.2.1 hd hL.has hb rfl (fun LS' hl => K p l e Rm s m args below meth c n0 s0 Q H locs LS' C hn hH hS (zLr.st1 hl) hQ)
theorem zi_lload_n {k : Fin 4} {i : Nat} {x : Int64} (hd : decode M.2.1 pc = .ok (.lload_n k, 1)) (hi : (k : Nat) = i) (hx : ls[i]? = some (some (.long x))) (K : zA G d M (pc + 1) ls (.long x :: st) h R) : zA G d M pc ls (st) h R := by
  intro p l e Rm s m args below meth c n0 s0 Q H locs LS C hn hH hS hL hQ
  exact lv_lload_n C.1 C.2.1 hd hi (hL.2.2 i _ hx) (K p l e Rm s m args below meth c n0 s0 Q H locs LS C hn hH hS hL hQ)
theorem zi_lload {i : Nat} {x : Int64} (hd : decode M.2.1 pc = .ok (.lload i, 2)) (hx : ls[i]? = some (some (.long x))) (K : zA G d M (pc + 2) ls (.long x :: st) h R) : zA G d M pc ls (st) h R := by
  intro p l e Rm s m args below meth c n0 s0 Q H locs LS C hn hH hS hL hQ
  exact lv_lload C.1 C.2.1 hd (hL.2.2 i _ hx) (K p l e Rm s m args below meth c n0 s0 Q H locs LS C hn hH hS hL hQ)
theorem zi_lstore_n {k : Fin 4} {i : Nat} {x : Int64} (hd : decode M.2.1 pc = .ok (.lstore_n k, 1)) (hi : (k : Nat) = i) (hb : i + 1 < M.2.2.1) {ls' : List (Option Value)} (hl' : zst2 ls i (.long x) = ls') (K : zA G d M (pc + 1) ls' st h R) : zA G d M pc ls (.long x :: st) h R := by
  subst hl'
  intro p l e Rm s m args below meth c n0 s0 Q H locs LS C hn hH hS hL hQ
  exact lv_lstore_n C.1 C.2.1 hd hi hL.has hb rfl (fun LS' hl => K p l e Rm s m args below meth c n0 s0 Q H locs LS' C hn hH hS (zLr.st2 hl) hQ)
theorem zi_lstore {i : Nat} {x : Int64} (hd : decode M.2.1 pc = .ok (.lstore i, 2)) (hb : i + 1 < M.2.2.1) {ls' : List (Option Value)} (hl' : zst2 ls i (.long x) = ls') (K : zA G d M (pc + 2) ls' st h R) : zA G d M pc ls (.long x :: st) h R := by
  subst hl'
  intro p l e Rm s m args below meth c n0 s0 Q H locs LS C hn hH hS hL hQ
  exact lv_lstore C.1 C.2.1 hd hL.has hb rfl (fun LS' hl => K p l e Rm s m args below meth c n0 s0 Q H locs LS' C hn hH hS (zLr.st2 hl) hQ)
theorem zi_aload_n {k : Fin 4} {i : Nat} {x : Nat} (hd : decode M.2.1 pc = .ok (.aload_n k, 1)) (hi : (k : Nat) = i) (hx : ls[i]? = some (some (.ref x))) (K : zA G d M (pc + 1) ls (.ref x :: st) h R) : zA G d M pc ls (st) h R := by
  intro p l e Rm s m args below meth c n0 s0 Q H locs LS C hn hH hS hL hQ
  exact lv_aload_n C.1 C.2.1 hd hi (hL.2.2 i _ hx) (K p l e Rm s m args below meth c n0 s0 Q H locs LS C hn hH hS hL hQ)
theorem zi_aload {i : Nat} {x : Nat} (hd : decode M.2.1 pc = .ok (.aload i, 2)) (hx : ls[i]? = some (some (.ref x))) (K : zA G d M (pc + 2) ls (.ref x :: st) h R) : zA G d M pc ls (st) h R := by
  intro p l e Rm s m args below meth c n0 s0 Q H locs LS C hn hH hS hL hQ
  exact lv_aload C.1 C.2.1 hd (hL.2.2 i _ hx) (K p l e Rm s m args below meth c n0 s0 Q H locs LS C hn hH hS hL hQ)
theorem zi_astore_n {k : Fin 4} {i : Nat} {x : Nat} (hd : decode M.2.1 pc = .ok (.astore_n k, 1)) (hi : (k : Nat) = i) (hb : i < M.2.2.1) {ls' : List (Option Value)} (hl' : zst ls i (.ref x) = ls') (K : zA G d M (pc + 1) ls' st h R) : zA G d M pc ls (.ref x :: st) h R := by
  subst hl'
  intro p l e Rm s m args below meth c n0 s0 Q H locs LS C hn hH hS hL hQ
  exact lv_astore_n C.1 C.2.1 hd hi hL.has hb rfl (fun LS' hl => K p l e Rm s m args below meth c n0 s0 Q H locs LS' C hn hH hS (zLr.st1 hl) hQ)
theorem zi_astore {i : Nat} {x : Nat} (hd : decode M.2.1 pc = .ok (.astore i, 2)) (hb : i < M.2.2.1) {ls' : List (Option Value)} (hl' : zst ls i (.ref x) = ls') (K : zA G d M (pc + 2) ls' st h R) : zA G d M pc ls (.ref x :: st) h R := by
  subst hl'
  intro p l e Rm s m args below meth c n0 s0 Q H locs LS C hn hH hS hL hQ
  exact lv_astore C.1 C.2.1 hd hL.has hb rfl (fun LS' hl => K p l e Rm s m args below meth c n0 s0 Q H locs LS' C hn hH hS (zLr.st1 hl) hQ)
theorem zi_iinc {i : Nat} {n : Int} {x : Int32} (hd : decode M.2.1 pc = .ok (.iinc i n, 3)) (hx : ls[i]? = some (some (.int x))) (hb : i < M.2.2.1) {v : Int32} (hv : x + Int32.ofInt n = v) {ls' : List (Option Value)} (hl' : zst ls i (.int v) = ls') (K : zA G d M (pc + 3) ls' st h R) : zA G d M pc ls st h R := by
  subst hl'
  subst hv
  intro p l e Rm s m args below meth c n0 s0 Q H locs LS C hn hH hS hL hQ
  obtain ⟨k, hk⟩ := List.getElem?_of_mem (zll_mem (G := G) (ls := ls) (q := (i, .int x)) |>.mpr ⟨.int x, hx, rfl⟩)
  exact lv_iinc (v := x + Int32.ofInt n) C.1 C.2.1 hd hL.has hk rfl hb rfl (fun LS' hl => K p l e Rm s m args below meth c n0 s0 Q H locs LS' C hn hH hS (zLr.st1 hl) hQ)
theorem zi_iadd {x y : Int32} (hd : decode M.2.1 pc = .ok (.iadd, 1))  (K : zA G d M (pc + 1) ls (.int (x + y) :: st) h R) : zA G d M pc ls (.int y :: .int x :: st) h R := by
  intro p l e Rm s m args below meth c n0 s0 Q H locs LS C hn hH hS hL hQ
  exact lv_iadd C.1 C.2.1 hd (K p l e Rm s m args below meth c n0 s0 Q H locs LS C hn hH hS hL hQ)
theorem zi_isub {x y : Int32} (hd : decode M.2.1 pc = .ok (.isub, 1))  (K : zA G d M (pc + 1) ls (.int (x - y) :: st) h R) : zA G d M pc ls (.int y :: .int x :: st) h R := by
  intro p l e Rm s m args below meth c n0 s0 Q H locs LS C hn hH hS hL hQ
  exact lv_isub C.1 C.2.1 hd (K p l e Rm s m args below meth c n0 s0 Q H locs LS C hn hH hS hL hQ)
theorem zi_imul {x y : Int32} (hd : decode M.2.1 pc = .ok (.imul, 1))  (K : zA G d M (pc + 1) ls (.int (x * y) :: st) h R) : zA G d M pc ls (.int y :: .int x :: st) h R := by
  intro p l e Rm s m args below meth c n0 s0 Q H locs LS C hn hH hS hL hQ
  exact lv_imul C.1 C.2.1 hd (K p l e Rm s m args below meth c n0 s0 Q H locs LS C hn hH hS hL hQ)
theorem zi_iand {x y : Int32} (hd : decode M.2.1 pc = .ok (.iand, 1))  (K : zA G d M (pc + 1) ls (.int (x &&& y) :: st) h R) : zA G d M pc ls (.int y :: .int x :: st) h R := by
  intro p l e Rm s m args below meth c n0 s0 Q H locs LS C hn hH hS hL hQ
  exact lv_iand C.1 C.2.1 hd (K p l e Rm s m args below meth c n0 s0 Q H locs LS C hn hH hS hL hQ)
theorem zi_ior {x y : Int32} (hd : decode M.2.1 pc = .ok (.ior, 1))  (K : zA G d M (pc + 1) ls (.int (x ||| y) :: st) h R) : zA G d M pc ls (.int y :: .int x :: st) h R := by
  intro p l e Rm s m args below meth c n0 s0 Q H locs LS C hn hH hS hL hQ
  exact lv_ior C.1 C.2.1 hd (K p l e Rm s m args below meth c n0 s0 Q H locs LS C hn hH hS hL hQ)
theorem zi_ixor {x y : Int32} (hd : decode M.2.1 pc = .ok (.ixor, 1))  (K : zA G d M (pc + 1) ls (.int (x ^^^ y) :: st) h R) : zA G d M pc ls (.int y :: .int x :: st) h R := by
  intro p l e Rm s m args below meth c n0 s0 Q H locs LS C hn hH hS hL hQ
  exact lv_ixor C.1 C.2.1 hd (K p l e Rm s m args below meth c n0 s0 Q H locs LS C hn hH hS hL hQ)
theorem zi_ishl {x y : Int32} (hd : decode M.2.1 pc = .ok (.ishl, 1))  (K : zA G d M (pc + 1) ls (.int (x <<< (y &&& 31)) :: st) h R) : zA G d M pc ls (.int y :: .int x :: st) h R := by
  intro p l e Rm s m args below meth c n0 s0 Q H locs LS C hn hH hS hL hQ
  exact lv_ishl C.1 C.2.1 hd (K p l e Rm s m args below meth c n0 s0 Q H locs LS C hn hH hS hL hQ)
theorem zi_ishr {x y : Int32} (hd : decode M.2.1 pc = .ok (.ishr, 1))  (K : zA G d M (pc + 1) ls (.int (x >>> (y &&& 31)) :: st) h R) : zA G d M pc ls (.int y :: .int x :: st) h R := by
  intro p l e Rm s m args below meth c n0 s0 Q H locs LS C hn hH hS hL hQ
  exact lv_ishr C.1 C.2.1 hd (K p l e Rm s m args below meth c n0 s0 Q H locs LS C hn hH hS hL hQ)
theorem zi_iushr {x y : Int32} (hd : decode M.2.1 pc = .ok (.iushr, 1))  (K : zA G d M (pc + 1) ls (.int ((x.toUInt32 >>> (y.toUInt32 &&& Int32.toUInt32 31)).toInt32) :: st) h R) : zA G d M pc ls (.int y :: .int x :: st) h R := by
  intro p l e Rm s m args below meth c n0 s0 Q H locs LS C hn hH hS hL hQ
  exact lv_iushr C.1 C.2.1 hd rfl (K p l e Rm s m args below meth c n0 s0 Q H locs LS C hn hH hS hL hQ)
theorem zi_ineg {x : Int32} (hd : decode M.2.1 pc = .ok (.ineg, 1))  (K : zA G d M (pc + 1) ls (.int (-x) :: st) h R) : zA G d M pc ls (.int x :: st) h R := by
  intro p l e Rm s m args below meth c n0 s0 Q H locs LS C hn hH hS hL hQ
  exact lv_ineg C.1 C.2.1 hd (K p l e Rm s m args below meth c n0 s0 Q H locs LS C hn hH hS hL hQ)
theorem zi_idiv {x y : Int32} (hd : decode M.2.1 pc = .ok (.idiv, 1)) (hy : ¬ y = 0) (K : zA G d M (pc + 1) ls (.int (x / y) :: st) h R) : zA G d M pc ls (.int y :: .int x :: st) h R := by
  intro p l e Rm s m args below meth c n0 s0 Q H locs LS C hn hH hS hL hQ
  exact lv_idiv C.1 C.2.1 hd hy (K p l e Rm s m args below meth c n0 s0 Q H locs LS C hn hH hS hL hQ)
theorem zi_irem {x y : Int32} (hd : decode M.2.1 pc = .ok (.irem, 1)) (hy : ¬ y = 0) (K : zA G d M (pc + 1) ls (.int (zrem x y) :: st) h R) : zA G d M pc ls (.int y :: .int x :: st) h R := by
  intro p l e Rm s m args below meth c n0 s0 Q H locs LS C hn hH hS hL hQ
  exact lv_irem C.1 C.2.1 hd hy (K p l e Rm s m args below meth c n0 s0 Q H locs LS C hn hH hS hL hQ)
theorem zi_ladd {x y : Int64} (hd : decode M.2.1 pc = .ok (.ladd, 1))  (K : zA G d M (pc + 1) ls (.long (x + y) :: st) h R) : zA G d M pc ls (.long y :: .long x :: st) h R := by
  intro p l e Rm s m args below meth c n0 s0 Q H locs LS C hn hH hS hL hQ
  exact lv_ladd C.1 C.2.1 hd (K p l e Rm s m args below meth c n0 s0 Q H locs LS C hn hH hS hL hQ)
theorem zi_lsub {x y : Int64} (hd : decode M.2.1 pc = .ok (.lsub, 1))  (K : zA G d M (pc + 1) ls (.long (x - y) :: st) h R) : zA G d M pc ls (.long y :: .long x :: st) h R := by
  intro p l e Rm s m args below meth c n0 s0 Q H locs LS C hn hH hS hL hQ
  exact lv_lsub C.1 C.2.1 hd (K p l e Rm s m args below meth c n0 s0 Q H locs LS C hn hH hS hL hQ)
theorem zi_lmul {x y : Int64} (hd : decode M.2.1 pc = .ok (.lmul, 1))  (K : zA G d M (pc + 1) ls (.long (x * y) :: st) h R) : zA G d M pc ls (.long y :: .long x :: st) h R := by
  intro p l e Rm s m args below meth c n0 s0 Q H locs LS C hn hH hS hL hQ
  exact lv_lmul C.1 C.2.1 hd (K p l e Rm s m args below meth c n0 s0 Q H locs LS C hn hH hS hL hQ)
theorem zi_land {x y : Int64} (hd : decode M.2.1 pc = .ok (.land, 1))  (K : zA G d M (pc + 1) ls (.long (x &&& y) :: st) h R) : zA G d M pc ls (.long y :: .long x :: st) h R := by
  intro p l e Rm s m args below meth c n0 s0 Q H locs LS C hn hH hS hL hQ
  exact lv_land C.1 C.2.1 hd (K p l e Rm s m args below meth c n0 s0 Q H locs LS C hn hH hS hL hQ)
theorem zi_lor {x y : Int64} (hd : decode M.2.1 pc = .ok (.lor, 1))  (K : zA G d M (pc + 1) ls (.long (x ||| y) :: st) h R) : zA G d M pc ls (.long y :: .long x :: st) h R := by
  intro p l e Rm s m args below meth c n0 s0 Q H locs LS C hn hH hS hL hQ
  exact lv_lor C.1 C.2.1 hd (K p l e Rm s m args below meth c n0 s0 Q H locs LS C hn hH hS hL hQ)
theorem zi_ldiv {x y : Int64} (hd : decode M.2.1 pc = .ok (.ldiv, 1)) (hy : ¬ y = 0) (K : zA G d M (pc + 1) ls (.long (x / y) :: st) h R) : zA G d M pc ls (.long y :: .long x :: st) h R := by
  intro p l e Rm s m args below meth c n0 s0 Q H locs LS C hn hH hS hL hQ
  exact lv_ldiv C.1 C.2.1 hd hy (K p l e Rm s m args below meth c n0 s0 Q H locs LS C hn hH hS hL hQ)
theorem zi_lrem {x y : Int64} (hd : decode M.2.1 pc = .ok (.lrem, 1)) (hy : ¬ y = 0) (K : zA G d M (pc + 1) ls (.long (zremL x y) :: st) h R) : zA G d M pc ls (.long y :: .long x :: st) h R := by
  intro p l e Rm s m args below meth c n0 s0 Q H locs LS C hn hH hS hL hQ
  exact lv_lrem C.1 C.2.1 hd hy (K p l e Rm s m args below meth c n0 s0 Q H locs LS C hn hH hS hL hQ)
theorem zi_lshl {x : Int64} {y : Int32} (hd : decode M.2.1 pc = .ok (.lshl, 1))  (K : zA G d M (pc + 1) ls (.long (x <<< (y.toInt64 &&& 63)) :: st) h R) : zA G d M pc ls (.int y :: .long x :: st) h R := by
  intro p l e Rm s m args below meth c n0 s0 Q H locs LS C hn hH hS hL hQ
  exact lv_lshl C.1 C.2.1 hd rfl (K p l e Rm s m args below meth c n0 s0 Q H locs LS C hn hH hS hL hQ)
theorem zi_lshr {x : Int64} {y : Int32} (hd : decode M.2.1 pc = .ok (.lshr, 1))  (K : zA G d M (pc + 1) ls (.long (x >>> (y.toInt64 &&& 63)) :: st) h R) : zA G d M pc ls (.int y :: .long x :: st) h R := by
  intro p l e Rm s m args below meth c n0 s0 Q H locs LS C hn hH hS hL hQ
  exact lv_lshr C.1 C.2.1 hd rfl (K p l e Rm s m args below meth c n0 s0 Q H locs LS C hn hH hS hL hQ)
theorem zi_lushr {x : Int64} {y : Int32} (hd : decode M.2.1 pc = .ok (.lushr, 1))  (K : zA G d M (pc + 1) ls (.long ((x.toUInt64 >>> (y.toInt64.toUInt64 &&& Int64.toUInt64 63)).toInt64) :: st) h R) : zA G d M pc ls (.int y :: .long x :: st) h R := by
  intro p l e Rm s m args below meth c n0 s0 Q H locs LS C hn hH hS hL hQ
  exact lv_lushr C.1 C.2.1 hd rfl (K p l e Rm s m args below meth c n0 s0 Q H locs LS C hn hH hS hL hQ)
theorem zi_i2l {x : Int32} (hd : decode M.2.1 pc = .ok (.i2l, 1))  (K : zA G d M (pc + 1) ls (.long x.toInt64 :: st) h R) : zA G d M pc ls (.int x :: st) h R := by
  intro p l e Rm s m args below meth c n0 s0 Q H locs LS C hn hH hS hL hQ
  exact lv_i2l C.1 C.2.1 hd rfl (K p l e Rm s m args below meth c n0 s0 Q H locs LS C hn hH hS hL hQ)
theorem zi_l2i {x : Int64} (hd : decode M.2.1 pc = .ok (.l2i, 1))  (K : zA G d M (pc + 1) ls (.int x.toInt32 :: st) h R) : zA G d M pc ls (.long x :: st) h R := by
  intro p l e Rm s m args below meth c n0 s0 Q H locs LS C hn hH hS hL hQ
  exact lv_l2i C.1 C.2.1 hd rfl (K p l e Rm s m args below meth c n0 s0 Q H locs LS C hn hH hS hL hQ)
theorem zi_i2c {x : Int32} (hd : decode M.2.1 pc = .ok (.i2c, 1))  (K : zA G d M (pc + 1) ls (.int (x.toUInt32 % 65536).toInt32 :: st) h R) : zA G d M pc ls (.int x :: st) h R := by
  intro p l e Rm s m args below meth c n0 s0 Q H locs LS C hn hH hS hL hQ
  exact lv_i2c C.1 C.2.1 hd rfl (K p l e Rm s m args below meth c n0 s0 Q H locs LS C hn hH hS hL hQ)
theorem zi_lcmp {x y : Int64} (hd : decode M.2.1 pc = .ok (.lcmp, 1))  (K : zA G d M (pc + 1) ls (.int (lg_cmp x y) :: st) h R) : zA G d M pc ls (.long y :: .long x :: st) h R := by
  intro p l e Rm s m args below meth c n0 s0 Q H locs LS C hn hH hS hL hQ
  exact W.lcmp C.1 C.2.1 hd (K p l e Rm s m args below meth c n0 s0 Q H locs LS C hn hH hS hL hQ)
theorem zi_dup {v : Value} (hd : decode M.2.1 pc = .ok (.dup, 1)) (hv : v.category = 1) (K : zA G d M (pc + 1) ls (v :: v :: st) h R) : zA G d M pc ls (v :: st) h R := by
  intro p l e Rm s m args below meth c n0 s0 Q H locs LS C hn hH hS hL hQ
  exact lv_dup C.1 C.2.1 hd ((ztv_cat G v).trans hv) (K p l e Rm s m args below meth c n0 s0 Q H locs LS C hn hH hS hL hQ)
theorem zi_pop {v : Value} (hd : decode M.2.1 pc = .ok (.pop, 1)) (hv : v.category = 1) (K : zA G d M (pc + 1) ls (st) h R) : zA G d M pc ls (v :: st) h R := by
  intro p l e Rm s m args below meth c n0 s0 Q H locs LS C hn hH hS hL hQ
  exact lv_pop C.1 C.2.1 hd ((ztv_cat G v).trans hv) (K p l e Rm s m args below meth c n0 s0 Q H locs LS C hn hH hS hL hQ)
theorem zi_dup2 {v w : Value} (hd : decode M.2.1 pc = .ok (.dup2, 1)) (hv : v.category = 1) (hw : w.category = 1) (K : zA G d M (pc + 1) ls (v :: w :: v :: w :: st) h R) : zA G d M pc ls (v :: w :: st) h R := by
  intro p l e Rm s m args below meth c n0 s0 Q H locs LS C hn hH hS hL hQ
  exact lv_dup2_11 C.1 C.2.1 hd ((ztv_cat G v).trans hv) ((ztv_cat G w).trans hw) (K p l e Rm s m args below meth c n0 s0 Q H locs LS C hn hH hS hL hQ)
theorem zi_if_eq {x : Int32} {off : Int} {tgt : Nat} (hd : decode M.2.1 pc = .ok (.ifCond .eq off, 3)) (ht : (pc : Int) + off = (tgt : Int)) (KT : x = 0 → zA G d M tgt ls st h R) (KF : ¬ x = 0 → zA G d M (pc + 3) ls st h R) : zA G d M pc ls (.int x :: st) h R := by
  intro p l e Rm s m args below meth c n0 s0 Q H locs LS C hn hH hS hL hQ
  exact lv_if_eq C.1 C.2.1 hd ht (fun hc => KT hc p l e Rm s m args below meth c n0 s0 Q H locs LS C hn hH hS hL hQ) (fun hc => KF hc p l e Rm s m args below meth c n0 s0 Q H locs LS C hn hH hS hL hQ)
theorem zi_icmp_eq {x y : Int32} {off : Int} {tgt : Nat} (hd : decode M.2.1 pc = .ok (.if_icmp .eq off, 3)) (ht : (pc : Int) + off = (tgt : Int)) (KT : x = y → zA G d M tgt ls st h R) (KF : ¬ x = y → zA G d M (pc + 3) ls st h R) : zA G d M pc ls (.int y :: .int x :: st) h R := by
  intro p l e Rm s m args below meth c n0 s0 Q H locs LS C hn hH hS hL hQ
  exact lv_icmp_eq C.1 C.2.1 hd ht (fun hc => KT hc p l e Rm s m args below meth c n0 s0 Q H locs LS C hn hH hS hL hQ) (fun hc => KF hc p l e Rm s m args below meth c n0 s0 Q H locs LS C hn hH hS hL hQ)
theorem zi_if_ne {x : Int32} {off : Int} {tgt : Nat} (hd : decode M.2.1 pc = .ok (.ifCond .ne off, 3)) (ht : (pc : Int) + off = (tgt : Int)) (KT : ¬ x = 0 → zA G d M tgt ls st h R) (KF : x = 0 → zA G d M (pc + 3) ls st h R) : zA G d M pc ls (.int x :: st) h R := by
  intro p l e Rm s m args below meth c n0 s0 Q H locs LS C hn hH hS hL hQ
  exact lv_if_ne C.1 C.2.1 hd ht (fun hc => KT hc p l e Rm s m args below meth c n0 s0 Q H locs LS C hn hH hS hL hQ) (fun hc => KF hc p l e Rm s m args below meth c n0 s0 Q H locs LS C hn hH hS hL hQ)
theorem zi_icmp_ne {x y : Int32} {off : Int} {tgt : Nat} (hd : decode M.2.1 pc = .ok (.if_icmp .ne off, 3)) (ht : (pc : Int) + off = (tgt : Int)) (KT : ¬ x = y → zA G d M tgt ls st h R) (KF : x = y → zA G d M (pc + 3) ls st h R) : zA G d M pc ls (.int y :: .int x :: st) h R := by
  intro p l e Rm s m args below meth c n0 s0 Q H locs LS C hn hH hS hL hQ
  exact lv_icmp_ne C.1 C.2.1 hd ht (fun hc => KT hc p l e Rm s m args below meth c n0 s0 Q H locs LS C hn hH hS hL hQ) (fun hc => KF hc p l e Rm s m args below meth c n0 s0 Q H locs LS C hn hH hS hL hQ)
theorem zi_if_lt {x : Int32} {off : Int} {tgt : Nat} (hd : decode M.2.1 pc = .ok (.ifCond .lt off, 3)) (ht : (pc : Int) + off = (tgt : Int)) (KT : x < 0 → zA G d M tgt ls st h R) (KF : ¬ x < 0 → zA G d M (pc + 3) ls st h R) : zA G d M pc ls (.int x :: st) h R := by
  intro p l e Rm s m args below meth c n0 s0 Q H locs LS C hn hH hS hL hQ
  exact lv_if_lt C.1 C.2.1 hd ht (fun hc => KT hc p l e Rm s m args below meth c n0 s0 Q H locs LS C hn hH hS hL hQ) (fun hc => KF hc p l e Rm s m args below meth c n0 s0 Q H locs LS C hn hH hS hL hQ)
theorem zi_icmp_lt {x y : Int32} {off : Int} {tgt : Nat} (hd : decode M.2.1 pc = .ok (.if_icmp .lt off, 3)) (ht : (pc : Int) + off = (tgt : Int)) (KT : x < y → zA G d M tgt ls st h R) (KF : ¬ x < y → zA G d M (pc + 3) ls st h R) : zA G d M pc ls (.int y :: .int x :: st) h R := by
  intro p l e Rm s m args below meth c n0 s0 Q H locs LS C hn hH hS hL hQ
  exact lv_icmp_lt C.1 C.2.1 hd ht (fun hc => KT hc p l e Rm s m args below meth c n0 s0 Q H locs LS C hn hH hS hL hQ) (fun hc => KF hc p l e Rm s m args below meth c n0 s0 Q H locs LS C hn hH hS hL hQ)
theorem zi_if_ge {x : Int32} {off : Int} {tgt : Nat} (hd : decode M.2.1 pc = .ok (.ifCond .ge off, 3)) (ht : (pc : Int) + off = (tgt : Int)) (KT : 0 ≤ x → zA G d M tgt ls st h R) (KF : ¬ 0 ≤ x → zA G d M (pc + 3) ls st h R) : zA G d M pc ls (.int x :: st) h R := by
  intro p l e Rm s m args below meth c n0 s0 Q H locs LS C hn hH hS hL hQ
  exact lv_if_ge C.1 C.2.1 hd ht (fun hc => KT hc p l e Rm s m args below meth c n0 s0 Q H locs LS C hn hH hS hL hQ) (fun hc => KF hc p l e Rm s m args below meth c n0 s0 Q H locs LS C hn hH hS hL hQ)
theorem zi_icmp_ge {x y : Int32} {off : Int} {tgt : Nat} (hd : decode M.2.1 pc = .ok (.if_icmp .ge off, 3)) (ht : (pc : Int) + off = (tgt : Int)) (KT : y ≤ x → zA G d M tgt ls st h R) (KF : ¬ y ≤ x → zA G d M (pc + 3) ls st h R) : zA G d M pc ls (.int y :: .int x :: st) h R := by
  intro p l e Rm s m args below meth c n0 s0 Q H locs LS C hn hH hS hL hQ
  exact lv_icmp_ge C.1 C.2.1 hd ht (fun hc => KT hc p l e Rm s m args below meth c n0 s0 Q H locs LS C hn hH hS hL hQ) (fun hc => KF hc p l e Rm s m args below meth c n0 s0 Q H locs LS C hn hH hS hL hQ)
theorem zi_if_gt {x : Int32} {off : Int} {tgt : Nat} (hd : decode M.2.1 pc = .ok (.ifCond .gt off, 3)) (ht : (pc : Int) + off = (tgt : Int)) (KT : 0 < x → zA G d M tgt ls st h R) (KF : ¬ 0 < x → zA G d M (pc + 3) ls st h R) : zA G d M pc ls (.int x :: st) h R := by
  intro p l e Rm s m args below meth c n0 s0 Q H locs LS C hn hH hS hL hQ
  exact lv_if_gt C.1 C.2.1 hd ht (fun hc => KT hc p l e Rm s m args below meth c n0 s0 Q H locs LS C hn hH hS hL hQ) (fun hc => KF hc p l e Rm s m args below meth c n0 s0 Q H locs LS C hn hH hS hL hQ)
theorem zi_icmp_gt {x y : Int32} {off : Int} {tgt : Nat} (hd : decode M.2.1 pc = .ok (.if_icmp .gt off, 3)) (ht : (pc : Int) + off = (tgt : Int)) (KT : y < x → zA G d M tgt ls st h R) (KF : ¬ y < x → zA G d M (pc + 3) ls st h R) : zA G d M pc ls (.int y :: .int x :: st) h R := by
  intro p l e Rm s m args below meth c n0 s0 Q H locs LS C hn hH hS hL hQ
  exact lv_icmp_gt C.1 C.2.1 hd ht (fun hc => KT hc p l e Rm s m args below meth c n0 s0 Q H locs LS C hn hH hS hL hQ) (fun hc => KF hc p l e Rm s m args below meth c n0 s0 Q H locs LS C hn hH hS hL hQ)
theorem zi_if_le {x : Int32} {off : Int} {tgt : Nat} (hd : decode M.2.1 pc = .ok (.ifCond .le off, 3)) (ht : (pc : Int) + off = (tgt : Int)) (KT : x ≤ 0 → zA G d M tgt ls st h R) (KF : ¬ x ≤ 0 → zA G d M (pc + 3) ls st h R) : zA G d M pc ls (.int x :: st) h R := by
  intro p l e Rm s m args below meth c n0 s0 Q H locs LS C hn hH hS hL hQ
  exact lv_if_le C.1 C.2.1 hd ht (fun hc => KT hc p l e Rm s m args below meth c n0 s0 Q H locs LS C hn hH hS hL hQ) (fun hc => KF hc p l e Rm s m args below meth c n0 s0 Q H locs LS C hn hH hS hL hQ)
theorem zi_icmp_le {x y : Int32} {off : Int} {tgt : Nat} (hd : decode M.2.1 pc = .ok (.if_icmp .le off, 3)) (ht : (pc : Int) + off = (tgt : Int)) (KT : x ≤ y → zA G d M tgt ls st h R) (KF : ¬ x ≤ y → zA G d M (pc + 3) ls st h R) : zA G d M pc ls (.int y :: .int x :: st) h R := by
  intro p l e Rm s m args below meth c n0 s0 Q H locs LS C hn hH hS hL hQ
  exact lv_icmp_le C.1 C.2.1 hd ht (fun hc => KT hc p l e Rm s m args below meth c n0 s0 Q H locs LS C hn hH hS hL hQ) (fun hc => KF hc p l e Rm s m args below meth c n0 s0 Q H locs LS C hn hH hS hL hQ)
theorem zi_goto {off : Int} {tgt : Nat} (hd : decode M.2.1 pc = .ok (.goto off, 3)) (ht : (pc : Int) + off = (tgt : Int)) (K : zA G d M tgt ls st h R) : zA G d M pc ls st h R := by
  intro p l e Rm s m args below meth c n0 s0 Q H locs LS C hn hH hS hL hQ
  exact lv_goto C.1 C.2.1 hd ht (K p l e Rm s m args below meth c n0 s0 Q H locs LS C hn hH hS hL hQ)
theorem zi_tableOut {dflt lo hi : Int} {offs : Array Int} {len : Nat} {x : Int32} {tgt : Nat} (hd : decode M.2.1 pc = .ok (.tableswitch dflt lo hi offs, len)) (hx : x.toInt < lo ∨ hi < x.toInt) (ht : (pc : Int) + dflt = (tgt : Int)) (K : zA G d M tgt ls st h R) : zA G d M pc ls (.int x :: st) h R := by
  intro p l e Rm s m args below meth c n0 s0 Q H locs LS C hn hH hS hL hQ
  exact lv_tableOut C.1 C.2.1 hd hx ht (K p l e Rm s m args below meth c n0 s0 Q H locs LS C hn hH hS hL hQ)
theorem zi_tableIn {dflt lo hi : Int} {offs : Array Int} {len : Nat} {x : Int32} {off : Int} {tgt : Nat} (hd : decode M.2.1 pc = .ok (.tableswitch dflt lo hi offs, len)) (h1 : ¬ x.toInt < lo) (h2 : ¬ hi < x.toInt) (ho : offs[(x.toInt - lo).toNat]? = some off) (ht : (pc : Int) + off = (tgt : Int)) (K : zA G d M tgt ls st h R) : zA G d M pc ls (.int x :: st) h R := by
  intro p l e Rm s m args below meth c n0 s0 Q H locs LS C hn hH hS hL hQ
  exact lv_tableIn C.1 C.2.1 hd h1 h2 ho ht (K p l e Rm s m args below meth c n0 s0 Q H locs LS C hn hH hS hL hQ)
theorem zi_lookup {dflt : Int} {ps : Array (Int × Int)} {len : Nat} {x : Int32} {off : Int} {tgt : Nat} (hd : decode M.2.1 pc = .ok (.lookupswitch dflt ps, len)) (hp : (ps.toList.zip (ps.toList.drop 1)).all (fun (a, next) => a.1 < next.1) = true) (ho : Op.lookupswitch.offset ps.toList dflt x.toInt = off) (ht : (pc : Int) + off = (tgt : Int)) (K : zA G d M tgt ls st h R) : zA G d M pc ls (.int x :: st) h R := by
  intro p l e Rm s m args below meth c n0 s0 Q H locs LS C hn hH hS hL hQ
  exact lv_lookup C.1 C.2.1 hd hp ho ht (K p l e Rm s m args below meth c n0 s0 Q H locs LS C hn hH hS hL hQ)
theorem zi_ireturn {x : Int32} {ty : FieldType} (hd : decode M.2.1 pc = .ok (.ireturn, 1)) (hr : M.2.2.2 = some ty) (hn0 : narrow ty (.int x) = .int x) : zA G d M pc ls [.int x] h (some (.int x), h) := by
  intro p l e Rm s m args below meth c n0 s0 Q H locs LS C hn hH hS hL hQ
  exact hQ H locs pc LS .ireturn hH hS hd (Or.inl ⟨rfl, x, ty, rfl, hr, hn0⟩)
theorem zi_lreturn {x : Int64} (hd : decode M.2.1 pc = .ok (.lreturn, 1)) (hr : M.2.2.2 = some .long) : zA G d M pc ls [.long x] h (some (.long x), h) := by
  intro p l e Rm s m args below meth c n0 s0 Q H locs LS C hn hH hS hL hQ
  exact hQ H locs pc LS .lreturn hH hS hd (Or.inr (Or.inl ⟨rfl, x, rfl, hr⟩))
theorem zi_areturn {i : Nat} {n : String} (hd : decode M.2.1 pc = .ok (.areturn, 1)) (hr : M.2.2.2 = some (.object n)) : zA G d M pc ls [.ref i] h (some (.ref i), h) := by
  intro p l e Rm s m args below meth c n0 s0 Q H locs LS C hn hH hS hL hQ
  exact hQ H locs pc LS .areturn hH hS hd (Or.inr (Or.inr (Or.inl ⟨rfl, i, n, rfl, hr⟩)))
theorem zi_return (hd : decode M.2.1 pc = .ok (.return_, 1)) (hr : M.2.2.2 = none) : zA G d M pc ls [] h (none, h) := by
  intro p l e Rm s m args below meth c n0 s0 Q H locs LS C hn hH hS hL hQ
  exact hQ H locs pc LS .return_ hH hS hd (Or.inr (Or.inr (Or.inr ⟨rfl, rfl, hr⟩)))
theorem zi_mask (bs : List Bool) {ls' : List (Option Value)} (hl' : zmask bs ls = ls') (K : zA G d M pc ls' st h R) : zA G d M pc ls st h R := by
  subst hl'
  intro p l e Rm s m args below meth c n0 s0 Q H locs LS C hn hH hS hL hQ
  exact K p l e Rm s m args below meth c n0 s0 Q H locs LS C hn hH hS ⟨hL.1, hL.2.1, fun k v hk => hL.2.2 k v (zmask_spec bs ls k v hk)⟩ hQ
end ZRULES
