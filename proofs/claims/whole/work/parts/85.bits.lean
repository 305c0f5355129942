/-! sets of places as bits -/
def bitI (j : Nat) : Int32 := 1 <<< (nI j &&& 31)
theorem bit_and : ∀ j, j < 10 → ∀ k, k < 10 → bitI j &&& bitI k = if j = k then bitI k else 0 := by decide +kernel
theorem bit_ne : ∀ k, k < 10 → ¬ bitI k = 0 := by decide +kernel
theorem or_and_i (x a b : Int32) : (x ||| a) &&& b = (x &&& b) ||| (a &&& b) := by
  apply Int32.toBitVec_inj.mp
  simp only [Int32.toBitVec_and, Int32.toBitVec_or]
  ext i hi
  simp only [BitVec.getElem_and, BitVec.getElem_or]
  cases x.toBitVec[i] <;> cases a.toBitVec[i] <;> cases b.toBitVec[i] <;> rfl
theorem or_self_i (x b : Int32) : (x &&& b) ||| b = b := by
  apply Int32.toBitVec_inj.mp
  simp only [Int32.toBitVec_and, Int32.toBitVec_or]
  ext i hi
  simp only [BitVec.getElem_and, BitVec.getElem_or]
  cases x.toBitVec[i] <;> cases b.toBitVec[i] <;> rfl
theorem or_zero_i (x : Int32) : x ||| 0 = x := by
  apply Int32.toBitVec_inj.mp
  simp only [Int32.toBitVec_or]
  ext i hi
  simp
/-- x holds the set c, up to 9 -/
def isBits (x : Int32) (c : Nat → Bool) : Prop := ∀ k, k < 10 → (x &&& bitI k = 0 ↔ c k = false)
theorem bits_add {x : Int32} {c : Nat → Bool} {j : Nat} (hj : j < 10) (h : isBits x c) : isBits (x ||| bitI j) (fun k => c k || decide (k = j)) := by
  intro k hk
  rw [or_and_i, bit_and j hj k hk]
  by_cases e : j = k
  · subst e
    rw [if_pos rfl, or_self_i]
    simp [bit_ne j hk]
  · rw [if_neg e, or_zero_i, h k hk]
    simp [show ¬ k = j from fun z => e z.symm]
