/-! the class's longest fit -/
def bitB (r p : Nat → Int32) (size i k : Nat) : Bool := if k ≤ size then (if k < size ∧ p k = -2 then col r p (k + 1) i else col r p k i) else false
theorem bitB_m {r p : Nat → Int32} {size i k : Nat} (hk : k < size) (hp : p k = -2) : bitB r p size i k = col r p (k + 1) i := by
  unfold bitB
  rw [if_pos (by omega), if_pos ⟨hk, hp⟩]
theorem bitB_n {r p : Nat → Int32} {size i k : Nat} (hk : k ≤ size) (hp : ¬ (k < size ∧ p k = -2)) : bitB r p size i k = col r p k i := by
  unfold bitB
  rw [if_pos hk, if_neg hp]
theorem bitB_o {r p : Nat → Int32} {size i k : Nat} (hk : ¬ k ≤ size) : bitB r p size i k = false := by
  unfold bitB
  rw [if_neg hk]
theorem bitB_size {r p : Nat → Int32} {size i : Nat} : bitB r p size i size = col r p size i := bitB_n (Nat.le_refl _) (fun z => by omega)
theorem clos_s {p : Nat → Int32} {size : Nat} {c : Nat → Bool} (j : Nat) : clos p size c (j + 1) = (c (j + 1) || (decide (j < size) && decide (p j = -2) && clos p size c j)) := rfl
theorem bitB_0 {r p : Nat → Int32} {size : Nat} : ∀ k, clos p size (fun k => decide (k = 0)) k = bitB r p size 0 k := by
  intro k
  induction k with
  | zero =>
    by_cases e : 0 < size ∧ p 0 = -2
    · rw [bitB_m e.1 e.2, col_many0 e.2]
      rfl
    · rw [bitB_n (Nat.zero_le _) e]
      rfl
  | succ k ih =>
    rw [clos_s, ih]
    by_cases e0 : k < size
    · have e2 : bitB r p size 0 (k + 1) = col r p (k + 1) 0 := by
        by_cases e : k + 1 < size ∧ p (k + 1) = -2
        · rw [bitB_m e.1 e.2, col_many0 e.2]
        · rw [bitB_n (by omega) e]
      rw [e2]
      by_cases e1 : p k = -2
      · rw [bitB_m e0 e1]
        simp [e0, e1]
      · rw [col_0 e1]
        simp [e1]
    · rw [bitB_o (show ¬ k + 1 ≤ size by omega)]
      simp [e0]
theorem bitB_step {r p : Nat → Int32} {size i : Nat} : ∀ k, clos p size (aftI p (bitB r p size i) (r i) size) k = bitB r p size (i + 1) k := by
  intro k
  induction k with
  | zero =>
    show (decide (0 < size) && bitB r p size i 0 && decide (p 0 = -2)) = bitB r p size (i + 1) 0
    by_cases e : 0 < size ∧ p 0 = -2
    · have f1 : bitB r p size i 0 = col r p 1 i := bitB_m e.1 e.2
      have f2 : bitB r p size (i + 1) 0 = col r p 1 (i + 1) := bitB_m e.1 e.2
      rw [f1, f2, col_many1 e.2]
      simp [e.1, e.2, col]
    · have f2 : bitB r p size (i + 1) 0 = col r p 0 (i + 1) := bitB_n (Nat.zero_le _) e
      have : (decide (0 < size) && bitB r p size i 0 && decide (p 0 = -2)) = false := by
        by_cases e1 : 0 < size
        · have : ¬ p 0 = -2 := fun z => e ⟨e1, z⟩
          simp [this]
        · simp [e1]
      rw [this, f2]
      rfl
  | succ k ih =>
    rw [clos_s, ih, aft_s]
    by_cases e0 : k < size
    · have hx : (decide (k + 1 < size) && bitB r p size i (k + 1) && decide (p (k + 1) = -2)) = (if k + 1 < size ∧ p (k + 1) = -2 then col r p (k + 2) i else false) := by
        by_cases e : k + 1 < size ∧ p (k + 1) = -2
        · rw [if_pos e, bitB_m e.1 e.2]
          simp [e.1, e.2]
        · rw [if_neg e]
          by_cases e2 : k + 1 < size
          · have : ¬ p (k + 1) = -2 := fun z => e ⟨e2, z⟩
            simp [this]
          · simp [e2]
      have hy : bitB r p size (i + 1) (k + 1) = (if k + 1 < size ∧ p (k + 1) = -2 then (col r p (k + 2) i || col r p (k + 1) (i + 1)) else col r p (k + 1) (i + 1)) := by
        by_cases e : k + 1 < size ∧ p (k + 1) = -2
        · rw [if_pos e, bitB_m e.1 e.2, col_many1 e.2]
        · rw [if_neg e, bitB_n (by omega) e]
      rw [hx, hy]
      by_cases e1 : p k = -2
      · have f1 : bitB r p size (i + 1) k = col r p (k + 1) (i + 1) := bitB_m e0 e1
        rw [f1]
        split <;> simp [e0, e1]
      · have f1 : bitB r p size i k = col r p k i := bitB_n (by omega) (fun z => e1 z.2)
        rw [f1, col_1 e1]
        split <;> simp [e0, e1]
    · have f1 : bitB r p size (i + 1) (k + 1) = false := bitB_o (by omega)
      rw [f1]
      simp [e0, show ¬ k + 1 < size by omega]
/-- the greatest i from 1 on, to len, with M -/
def lgS (M : Nat → Bool) : Nat → Nat
  | 0 => 0
  | i + 1 => if M (i + 1) then i + 1 else lgS M i
theorem lgS_le {M : Nat → Bool} : ∀ i, lgS M i ≤ i
  | 0 => Nat.le_refl _
  | i + 1 => by
    unfold lgS
    have := lgS_le (M := M) i
    split <;> omega
theorem lgS_max {M : Nat → Bool} : ∀ {i k : Nat}, lgS M i < k → k ≤ i → M k = false := by
  intro i
  induction i with
  | zero => intro k h1 h2; omega
  | succ i ih =>
    intro k h1 h2
    unfold lgS at h1
    by_cases e : M (i + 1) = true
    · rw [if_pos e] at h1; omega
    · rw [if_neg e] at h1
      by_cases e2 : k = i + 1
      · rw [e2]; simpa using e
      · exact ih h1 (by omega)
theorem lgS_is {M : Nat → Bool} : ∀ {i : Nat}, 0 < lgS M i → M (lgS M i) = true := by
  intro i
  induction i with
  | zero => intro h; exact absurd h (Nat.lt_irrefl 0)
  | succ i ih =>
    intro h
    unfold lgS at h ⊢
    by_cases e : M (i + 1) = true
    · rw [if_pos e]; exact e
    · rw [if_neg e] at h ⊢
      exact ih h
theorem longestFit_a {h : HH} {P Q size len : Nat} (hr : RA P 0 = P + 1) (hl : lnA (P + 1) = 8) (hQ : lnA Q = 30) (hz : size ≤ 8) (hs : h P 1 = nI size) (hlen : len ≤ 30) : fX1_longestFit h RA P Q (nI len) = some (nI (lgS (fun i => col (h Q) (h (P + 1)) size i) len)) := by
  obtain ⟨y0, p1, p2⟩ := passMany_a hr hl hz hs bits_1
  have key := loop_inv (L := fun n (s : Int32 × Int32) y => fX1_longestFit_b12 h RA P Q (nI len) n s.1 s.2 y) (e := len) (I := fun i s => isBits s.1 (bitB (h Q) (h (P + 1)) size i) ∧ s.2 = nI (lgS (fun i => col (h Q) (h (P + 1)) size i) i)) (g := fun s => some s.2) (fun n i s hi hI => by
    obtain ⟨I1, I2⟩ := hI
    obtain ⟨y1, a1, a2⟩ := afterName_a hr hl hz hs (nm := h Q i) I1
    obtain ⟨y2, b1, b2⟩ := passMany_a hr hl hz hs a2
    have b3 := bits_congr b2 (fun k _ => bitB_step (r := h Q) (p := h (P + 1)) (size := size) (i := i) k)
    have ln : (Int32.ofNat 30) = nI 30 := rfl
    have hbit := b3 size (by omega)
    rw [bitB_size] at hbit
    have ebs : (1 <<< (nI size &&& 31) : Int32) = bitI size := rfl
    by_cases hm : col (h Q) (h (P + 1)) size (i + 1) = true
    · refine ⟨(y2, nI (i + 1)), ?_, b3, ?_⟩
      · show fX1_longestFit_b12 h RA P Q (nI len) (n + 1) s.1 s.2 (nI i) = _
        rw [fX1_longestFit_b12, if_neg (nI_ge hi (by omega)), hQ, ln, if_neg (nI_ge (show i < 30 by omega) n30), gd_in (show i < 30 by omega) n30, ix_n (show i < 2 ^ 31 by omega), a1, Option.bind_some, b1, Option.bind_some, hs, ebs, if_neg (fun z => by rw [hbit.mp z] at hm; cases hm)]
        simp only [fX1_longestFit_b56, lt_eq, n_p1]
      · show nI (i + 1) = nI (lgS _ (i + 1))
        rw [lgS, if_pos hm]
    · have hm' : col (h Q) (h (P + 1)) size (i + 1) = false := by simpa using hm
      refine ⟨(y2, s.2), ?_, b3, ?_⟩
      · show fX1_longestFit_b12 h RA P Q (nI len) (n + 1) s.1 s.2 (nI i) = _
        rw [fX1_longestFit_b12, if_neg (nI_ge hi (by omega)), hQ, ln, if_neg (nI_ge (show i < 30 by omega) n30), gd_in (show i < 30 by omega) n30, ix_n (show i < 2 ^ 31 by omega), a1, Option.bind_some, b1, Option.bind_some, hs, ebs, if_pos (hbit.mpr hm')]
        simp only [fX1_longestFit_b56, n_p1]
      · show s.2 = nI (lgS _ (i + 1))
        rw [lgS, if_neg hm, I2]) (fun n s hI => by
    show fX1_longestFit_b12 h RA P Q (nI len) (n + 1) s.1 s.2 (nI len) = _
    rw [fX1_longestFit_b12, if_pos (nI_le (Nat.le_refl len) (by omega))])
  obtain ⟨s, ⟨-, h1⟩, h2⟩ := key lpF 0 (y0, 0) (by omega) (by rw [lpF_eq]; omega) ⟨bits_congr p2 (fun k _ => bitB_0 k), rfl⟩
  unfold fX1_longestFit
  rw [p1, Option.bind_some]
  have h2 : fX1_longestFit_b12 h RA P Q (nI len) lpF y0 0 (nI 0) = some s.2 := h2
  rw [← l0] at h2
  rw [h2, h1]
theorem anyB_congr {c d : Nat → Bool} : ∀ {i : Nat}, (∀ k, k ≤ i → c k = d k) → anyB c i = anyB d i := by
  intro i
  induction i with
  | zero => intro h; exact h 0 (Nat.le_refl _)
  | succ i ih =>
    intro h
    show (anyB c i || c (i + 1)) = (anyB d i || d (i + 1))
    rw [ih (fun k hk => h k (by omega)), h (i + 1) (Nat.le_refl _)]
theorem col_congr {r r' p p' : Nat → Int32} : ∀ (size i : Nat), (∀ j, j < size → p j = p' j) → (∀ j, j < i → r j = r' j) → col r p size i = col r' p' size i := by
  intro size
  induction size with
  | zero => intro i _ _; rfl
  | succ size ih =>
    intro i hp hr
    by_cases e : p size = -2
    · rw [col_many e, col_many (by rw [← hp size (by omega)]; exact e)]
      exact anyB_congr (fun k hk => ih k (fun j hj => hp j (by omega)) (fun j hj => hr j (by omega)))
    · have e' : ¬ p' size = -2 := by rw [← hp size (by omega)]; exact e
      cases i with
      | zero => rw [col_0 e, col_0 e']
      | succ i => rw [col_1 e, col_1 e', ih i (fun j hj => hp j (by omega)) (fun j hj => hr j (by omega)), hp size (by omega), hr i (by omega)]
/-- whether a pattern matches the first i names of a row -/
def pf (y : PT) : Nat → Int32 := fun j => y.1.getD j 0
def mtP (r : Nat → Int32) (y : PT) (i : Nat) : Bool := col r (pf y) y.1.length i
theorem mtP_of {r r' p : Nat → Int32} {y : PT} {i : Nat} (hp : ∀ j z, y.1[j]? = some z → p j = z) (hr : ∀ j, j < i → r j = r' j) : col r p y.1.length i = mtP r' y i := by
  refine col_congr _ _ (fun j hj => ?_) hr
  unfold pf
  rw [hp j (y.1[j]) (List.getElem?_eq_getElem hj), List.getD_eq_getElem?_getD, List.getElem?_eq_getElem hj]
  rfl
/-- row of a thing's names -/
def nmR (v : TV) (t : Nat) : Nat → Int32 := fun i => (upN v 30 (nI t)).getD (plen v t - 1 - i) 0
theorem lgS_congr {M N : Nat → Bool} : ∀ {i : Nat}, (∀ k, 0 < k → k ≤ i → M k = N k) → lgS M i = lgS N i := by
  intro i
  induction i with
  | zero => intro _; rfl
  | succ i ih =>
    intro h
    unfold lgS
    rw [h (i + 1) (by omega) (Nat.le_refl _), ih (fun k h1 h2 => h k h1 (by omega))]
