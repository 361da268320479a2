/-! truth as a number -/
def zb (p : Prop) [Decidable p] : Int32 := if p then 1 else 0
theorem zb_t {p : Prop} [Decidable p] (h : p) : zb p = 1 := if_pos h
theorem zb_f {p : Prop} [Decidable p] (h : ¬ p) : zb p = 0 := if_neg h
theorem zb_0 {p : Prop} [Decidable p] (h : zb p = 0) : ¬ p := fun q => by rw [zb_t q] at h; exact absurd h (by decide)
theorem zb_1 {p : Prop} [Decidable p] (h : ¬ zb p = 0) : p := by
  by_cases q : p
  · exact q
  · exact absurd (zb_f q) h
theorem znb (p : Prop) [Decidable p] : narrow .boolean (.int (zb p)) = .int (zb p) := by
  by_cases q : p
  · rw [zb_t q]; rfl
  · rw [zb_f q]; rfl
theorem z19 : zhl 19 := Or.inr (Or.inr (Or.inl rfl))
theorem z28 : zhl 28 := Or.inr (Or.inr (Or.inr rfl))
/-- a switch from 0 on -/
theorem zsw (x : Int32) (n : Nat) (hn : n < 1000) : (x.toInt < 0 ∨ (n : Int) < x.toInt) ∨ ∃ k : Nat, k ≤ n ∧ x = nI k := by
  by_cases h : x.toInt < 0 ∨ (n : Int) < x.toInt
  · exact Or.inl h
  · refine Or.inr ⟨x.toInt.toNat, by omega, ?_⟩
    apply Int32.toInt_inj.mp
    rw [nI_toInt (by omega)]
    omega
theorem zvi {i : Int32} {n : Nat} (h : ¬ (i < 0 ∨ n ≤ i.toNatClampNeg)) : vp_in i n := h
theorem zsw2 (x : Int32) (lo hi : Nat) (hn : hi < 1000) : (x.toInt < (lo : Int) ∨ (hi : Int) < x.toInt) ∨ ∃ k : Nat, lo ≤ k ∧ k ≤ hi ∧ x = nI k := by
  by_cases h : x.toInt < (lo : Int) ∨ (hi : Int) < x.toInt
  · exact Or.inl h
  · refine Or.inr ⟨x.toInt.toNat, by omega, by omega, ?_⟩
    apply Int32.toInt_inj.mp
    rw [nI_toInt (by omega)]
    omega
theorem zi_name {G : zG} {d : Nat} {M : zM} {pc : Nat} {ls : List (Option Value)} {st : List Value} {R : zR} {b : Nat} {I : Nat → Nat → Int32} {L : Nat → Nat → Int64} (K : ∀ I1 : Nat → Nat → Int32, I1 = I → zA G d M pc ls st (zh b I1 L) R) : zA G d M pc ls st (zh b I L) R := K I rfl
def zB (r : Bool) : Int32 := if r = true then 1 else 0
theorem zB_0 {r : Bool} (h : zB r = 0) : r = false := by cases r <;> simp_all [zB]
theorem zB_1 {r : Bool} (h : ¬ zB r = 0) : r = true := by cases r <;> simp_all [zB]
theorem znB (r : Bool) : narrow .boolean (.int (zB r)) = .int (zB r) := by cases r <;> rfl
theorem zb_B (p : Prop) [Decidable p] : zb p = zB (decide p) := by
  by_cases h : p
  · rw [zb_t h, decide_eq_true h]; rfl
  · rw [zb_f h, decide_eq_false h]; rfl
