/-! matching: the first j parts for the first i names -/
def anyB (c : Nat → Bool) : Nat → Bool
  | 0 => c 0
  | i + 1 => anyB c i || c (i + 1)
def okN (p nm : Int32) : Bool := decide (p = -1) || decide (p = nm)
def colS (c : Nat → Bool) (pj : Int32) (r : Nat → Int32) : Nat → Bool
  | 0 => false
  | i + 1 => c i && okN pj (r i)
def col (r p : Nat → Int32) : Nat → Nat → Bool
  | 0 => fun i => decide (i = 0)
  | j + 1 => fun i => if p j = -2 then anyB (col r p j) i else colS (col r p j) (p j) r i
theorem col_many {r p : Nat → Int32} {j : Nat} (h : p j = -2) (i : Nat) : col r p (j + 1) i = anyB (col r p j) i := by
  show (if p j = -2 then anyB (col r p j) i else colS (col r p j) (p j) r i) = _
  rw [if_pos h]
theorem col_0 {r p : Nat → Int32} {j : Nat} (h : ¬ p j = -2) : col r p (j + 1) 0 = false := by
  show (if p j = -2 then anyB (col r p j) 0 else colS (col r p j) (p j) r 0) = _
  rw [if_neg h]
  rfl
theorem col_1 {r p : Nat → Int32} {j : Nat} (h : ¬ p j = -2) (i : Nat) : col r p (j + 1) (i + 1) = (col r p j i && okN (p j) (r i)) := by
  show (if p j = -2 then anyB (col r p j) (i + 1) else colS (col r p j) (p j) r (i + 1)) = _
  rw [if_neg h]
  rfl
/-- the same, row by row -/
theorem col_many0 {r p : Nat → Int32} {j : Nat} (h : p j = -2) : col r p (j + 1) 0 = col r p j 0 := by
  rw [col_many h]
  rfl
theorem col_many1 {r p : Nat → Int32} {j : Nat} (h : p j = -2) (i : Nat) : col r p (j + 1) (i + 1) = (col r p (j + 1) i || col r p j (i + 1)) := by
  rw [col_many h, col_many h]
  rfl
theorem zn_or (a b : Bool) : zn (b2i a ||| b2i b) = b2i (a || b) := by cases a <;> cases b <;> decide
/-- a column of ** on the reference: up from 1 -/
theorem match_many {len : Nat} (a1 : Int32) (hl : len ≤ 30) (k33 : HH → Int32 → Option (Int32 × HH)) (x2 : Int32) (c : Nat → Bool) : ∀ (h : HH), h 1 22 = nI len → (∀ i, i ≤ len → h 31 i = b2i (c i)) → ∃ h', fX8_doesMatch_b61 RM 1 a1 k33 lpF h x2 1 = k33 h' (x2 + 1) ∧ (∀ q, q ≠ 31 → h' q = h q) ∧ ∀ i, i ≤ len → h' 31 i = b2i (anyB c i) := by
  intro h h22 hc
  have key := loop_inv (L := fun n (z : HH) y => fX8_doesMatch_b61 RM 1 a1 k33 n z x2 y) (e := len + 1) (I := fun j z => 1 ≤ j ∧ (∀ q, q ≠ 31 → z q = h q) ∧ (∀ i, i < j → z 31 i = b2i (anyB c i)) ∧ ∀ i, j ≤ i → i ≤ len → z 31 i = b2i (c i)) (g := fun z => k33 z (x2 + 1)) (fun n j z hj hI => by
    obtain ⟨j0, I1, I2, I3⟩ := hI
    obtain ⟨m, rfl⟩ : ∃ m, j = m + 1 := ⟨j - 1, by omega⟩
    have e22 : z 1 22 = nI len := by rw [I1 1 (by decide)]; exact h22
    refine ⟨up z 31 (m + 1) (b2i (anyB c (m + 1))), ?_, by omega, fun q hq => (up_ne hq).trans (I1 q hq), fun i hi => ?_, fun i h1 h2 => ?_⟩
    · rw [fX8_doesMatch_b61, e22, if_neg (fun z => by have := (nI_ltI (show len < 2 ^ 31 by omega) (show m + 1 < 2 ^ 31 by omega)).mp z; omega), M_24, ln_31, nI_pred, gd_in (show m + 1 < 31 by omega) (by decide), gd_in (show m < 31 by omega) (by decide), gd_in (show m + 1 < 31 by omega) (by decide), ix_n (show m + 1 < 2 ^ 31 by omega), ix_n (show m < 2 ^ 31 by omega), lt_eq, I3 (m + 1) (Nat.le_refl _) (by omega), I2 m (by omega), zn_or, n_p1, show (c (m + 1) || anyB c m) = anyB c (m + 1) from Bool.or_comm _ _]
    · rw [up_at]
      by_cases e : i = m + 1
      · rw [if_pos e, e]
      · rw [if_neg e]; exact I2 i (by omega)
    · rw [up_at, if_neg (by omega)]; exact I3 i (by omega) h2) (fun n z hI => by
    have e22 : z 1 22 = nI len := by rw [hI.2.1 1 (by decide)]; exact h22
    rw [fX8_doesMatch_b61, e22, if_pos (nI_lt (by omega) (by omega))]
    rfl)
  obtain ⟨h', ⟨-, I1, I2, -⟩, E⟩ := key lpF 1 h (by omega) (by rw [lpF_eq]; omega) ⟨Nat.le_refl 1, fun _ _ => rfl, fun i hi => by rw [show i = 0 by omega]; exact hc 0 (by omega), fun i _ h2 => hc i h2⟩
  have E' : fX8_doesMatch_b61 RM 1 a1 k33 lpF h x2 (nI 1) = k33 h' (x2 + 1) := E
  exact ⟨h', by rw [l1, E', ← l1], I1, fun i hi => I2 i (by omega)⟩
