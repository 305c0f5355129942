/-! matching: the first j parts for the first i names -/
def anyB (c : Nat → Bool) : Nat → Bool
  | 0 => c 0
  | i + 1 => anyB c i || c (i + 1)
def okN (p nm : Int32) : Bool := decide (p = -1) || decide (p = nm)
def colS (c : Nat → Bool) (pj : Int32) (r : Nat → Int32) : Nat → Bool
  | 0 => false
  | i + 1 => c i && okN pj (r i)
def col (r p : Nat → Int32) : Nat → Nat → Bool
  | 0 => fun i => decide (i = 0)
  | j + 1 => fun i => if p j = -2 then anyB (col r p j) i else colS (col r p j) (p j) r i
theorem col_many {r p : Nat → Int32} {j : Nat} (h : p j = -2) (i : Nat) : col r p (j + 1) i = anyB (col r p j) i := by
  show (if p j = -2 then anyB (col r p j) i else colS (col r p j) (p j) r i) = _
  rw [if_pos h]
theorem col_0 {r p : Nat → Int32} {j : Nat} (h : ¬ p j = -2) : col r p (j + 1) 0 = false := by
  show (if p j = -2 then anyB (col r p j) 0 else colS (col r p j) (p j) r 0) = _
  rw [if_neg h]
  rfl
theorem col_1 {r p : Nat → Int32} {j : Nat} (h : ¬ p j = -2) (i : Nat) : col r p (j + 1) (i + 1) = (col r p j i && okN (p j) (r i)) := by
  show (if p j = -2 then anyB (col r p j) (i + 1) else colS (col r p j) (p j) r (i + 1)) = _
  rw [if_neg h]
  rfl
/-- the same, row by row -/
theorem col_many0 {r p : Nat → Int32} {j : Nat} (h : p j = -2) : col r p (j + 1) 0 = col r p j 0 := by
  rw [col_many h]
  rfl
theorem col_many1 {r p : Nat → Int32} {j : Nat} (h : p j = -2) (i : Nat) : col r p (j + 1) (i + 1) = (col r p (j + 1) i || col r p j (i + 1)) := by
  rw [col_many h, col_many h]
  rfl
theorem zn_or (a b : Bool) : zn (b2i a ||| b2i b) = b2i (a || b) := by cases a <;> cases b <;> decide
/-- a column of ** on the reference: up from 1 -/
theorem match_many {len : Nat} (a1 : Int32) (hl : len ≤ 30) (k33 : HH → Int32 → Option (Int32 × HH)) (x2 : Int32) (c : Nat → Bool) : ∀ (h : HH), h 1 22 = nI len → (∀ i, i ≤ len → h 31 i = b2i (c i)) → ∃ h', fX8_doesMatch_b61 RM 1 a1 k33 lpF h x2 1 = k33 h' (x2 + 1) ∧ (∀ q, q ≠ 31 → h' q = h q) ∧ ∀ i, i ≤ len → h' 31 i = b2i (anyB c i) := by
  intro h h22 hc
  have key := loop_inv (L := fun n (z : HH) y => fX8_doesMatch_b61 RM 1 a1 k33 n z x2 y) (e := len + 1) (I := fun j z => 1 ≤ j ∧ (∀ q, q ≠ 31 → z q = h q) ∧ (∀ i, i < j → z 31 i = b2i (anyB c i)) ∧ ∀ i, j ≤ i → i ≤ len → z 31 i = b2i (c i)) (g := fun z => k33 z (x2 + 1)) (fun n j z hj hI => by
    obtain ⟨j0, I1, I2, I3⟩ := hI
    obtain ⟨m, rfl⟩ : ∃ m, j = m + 1 := ⟨j - 1, by omega⟩
    have e22 : z 1 22 = nI len := by rw [I1 1 (by decide)]; exact h22
    refine ⟨up z 31 (m + 1) (b2i (anyB c (m + 1))), ?_, by omega, fun q hq => (up_ne hq).trans (I1 q hq), fun i hi => ?_, fun i h1 h2 => ?_⟩
    · rw [fX8_doesMatch_b61, e22, if_neg (fun z => by have := (nI_ltI (show len < 2 ^ 31 by omega) (show m + 1 < 2 ^ 31 by omega)).mp z; omega), M_24, ln_31, nI_pred, gd_in (show m + 1 < 31 by omega) (by decide), gd_in (show m < 31 by omega) (by decide), gd_in (show m + 1 < 31 by omega) (by decide), ix_n (show m + 1 < 2 ^ 31 by omega), ix_n (show m < 2 ^ 31 by omega), lt_eq, I3 (m + 1) (Nat.le_refl _) (by omega), I2 m (by omega), zn_or, n_p1, show (c (m + 1) || anyB c m) = anyB c (m + 1) from Bool.or_comm _ _]
    · rw [up_at]
      by_cases e : i = m + 1
      · rw [if_pos e, e]
      · rw [if_neg e]; exact I2 i (by omega)
    · rw [up_at, if_neg (by omega)]; exact I3 i (by omega) h2) (fun n z hI => by
    have e22 : z 1 22 = nI len := by rw [hI.2.1 1 (by decide)]; exact h22
    rw [fX8_doesMatch_b61, e22, if_pos (nI_lt (by omega) (by omega))]
    rfl)
  obtain ⟨h', ⟨-, I1, I2, -⟩, E⟩ := key lpF 1 h (by omega) (by rw [lpF_eq]; omega) ⟨Nat.le_refl 1, fun _ _ => rfl, fun i hi => by rw [show i = 0 by omega]; exact hc 0 (by omega), fun i _ h2 => hc i h2⟩
  have E' : fX8_doesMatch_b61 RM 1 a1 k33 lpF h x2 (nI 1) = k33 h' (x2 + 1) := E
  exact ⟨h', by rw [l1, E', ← l1], I1, fun i hi => I2 i (by omega)⟩
theorem pm1 (m : Nat) : nI (m + 1) + (-1) = nI m := by
  rw [show nI (m + 1) + (-1) = nI (m + 1) - 1 from (Int32.sub_eq_add_neg _ _).symm, nI_pred]
theorem match_one {r : Nat → Int32} {len : Nat} (a1 : Int32) (hl : len ≤ 30) (k33 : HH → Int32 → Option (Int32 × HH)) (x2 pj : Int32) (c : Nat → Bool) : ∀ (m n : Nat) (h : HH), m ≤ len → m < n → (∀ i, i < len → h 30 i = r i) → (∀ i, i ≤ m → h 31 i = b2i (c i)) → (∀ i, m < i → i ≤ len → h 31 i = b2i (colS c pj r i)) → ∃ h', fX8_doesMatch_b104 RM 1 a1 k33 (n + 1) h x2 pj (nI m) = k33 h' (x2 + 1) ∧ (∀ q, q ≠ 31 → h' q = h q) ∧ ∀ i, i ≤ len → h' 31 i = b2i (colS c pj r i) := by
  intro m
  induction m with
  | zero =>
    intro n h hm hn hr hc hd
    obtain ⟨n, rfl⟩ : ∃ k, n = k + 1 := ⟨n - 1, by omega⟩
    have em : nI 0 + (-1) = -1 := by decide
    refine ⟨up h 31 0 0, ?_, fun q hq => up_ne hq, fun i hi => ?_⟩
    · rw [fX8_doesMatch_b104, if_neg (n_lt0 0 (by omega)), if_pos (show nI 0 ≤ 0 by decide)]
      unfold fX8_doesMatch_b154 fX8_doesMatch_b155
      rw [M_24, ln_31, gd_in (show 0 < 31 by decide) (by decide), lt_eq, zn_0, ix_n (show 0 < 2 ^ 31 by decide), em]
      show fX8_doesMatch_b104 RM 1 a1 k33 (n + 1) (up h 31 0 0) x2 pj (-1) = _
      rw [fX8_doesMatch_b104, if_pos (by decide)]
      rfl
    · rw [up_at]
      by_cases e : i = 0
      · rw [if_pos e, e]; rfl
      · rw [if_neg e]; exact hd i (by omega) hi
  | succ m ih =>
    intro n h hm hn hr hc hd
    obtain ⟨n, rfl⟩ : ∃ k, n = k + 1 := ⟨n - 1, by omega⟩
    have st : ∀ v : Bool, v = colS c pj r (m + 1) → ∃ h', fX8_doesMatch_b104 RM 1 a1 k33 (n + 1) (up h 31 (m + 1) (b2i v)) x2 pj (nI m) = k33 h' (x2 + 1) ∧ (∀ q, q ≠ 31 → h' q = h q) ∧ ∀ i, i ≤ len → h' 31 i = b2i (colS c pj r i) := by
      intro v hv
      obtain ⟨h', e1, e2, e3⟩ := ih n (up h 31 (m + 1) (b2i v)) (by omega) (by omega) (fun i hi => by rw [up_ne (by decide)]; exact hr i hi) (fun i hi => by rw [up_at, if_neg (by omega)]; exact hc i (by omega)) (fun i h1 h2 => by
        rw [up_at]
        by_cases e : i = m + 1
        · rw [if_pos e, hv, e]
        · rw [if_neg e]; exact hd i (by omega) h2)
      exact ⟨h', e1, fun q hq => (e2 q hq).trans (up_ne hq), e3⟩
    have s0 : ∀ v : Int32, v = 0 ∨ v = 1 → fX8_doesMatch_b155 RM 1 a1 k33 (fun h_ z2_ z3_ z4_ => fX8_doesMatch_b104 RM 1 a1 k33 (n + 1) h_ z2_ z3_ z4_) h 31 (nI (m + 1)) v x2 pj (nI (m + 1)) = fX8_doesMatch_b104 RM 1 a1 k33 (n + 1) (up h 31 (m + 1) v) x2 pj (nI m) := by
      intro v hv
      unfold fX8_doesMatch_b155
      rw [ln_31, gd_in (show m + 1 < 31 by omega) (by decide), lt_eq, ix_n (show m + 1 < 2 ^ 31 by omega), pm1]
      have : zn v = v := by rcases hv with rfl | rfl <;> decide
      rw [this]
    rw [fX8_doesMatch_b104, if_neg (n_lt0 _ (by omega)), if_neg (nI_nle (by omega) (by omega)), M_24, ln_31, nI_pred, gd_in (show m < 31 by omega) (by decide), ix_n (show m < 2 ^ 31 by omega), hc m (by omega), b2i_if]
    simp only [fX8_doesMatch_b154, fX8_doesMatch_b150]
    rw [s0 0 (Or.inl rfl), s0 1 (Or.inr rfl)]
    have cs : colS c pj r (m + 1) = (c m && (decide (pj = -1) || decide (pj = r m))) := rfl
    cases hcm : c m with
    | false =>
      rw [ifF rfl]
      exact st false (by rw [cs, hcm]; rfl)
    | true =>
      rw [if_pos rfl]
      by_cases e1 : pj = -1
      · rw [if_pos e1]
        exact st true (by rw [cs, hcm]; simp [e1])
      · rw [if_neg e1, M_23, ln_30, gd_in (show m < 30 by omega) n30, hr m (by omega)]
        by_cases e2 : pj = r m
        · rw [if_neg (fun z => z e2)]
          exact st true (by rw [cs, hcm]; simp [e2])
        · rw [if_pos e2]
          exact st false (by rw [cs, hcm]; simp [e1, e2])
