/-! the class's matching: rows as bits -/
theorem bits_congr {x : Int32} {c d : Nat → Bool} (h : isBits x c) (e : ∀ k, k < 10 → c k = d k) : isBits x d := fun k hk => by rw [← e k hk]; exact h k hk
theorem bits_0 : isBits 0 (fun _ => false) := by
  intro k hk
  simp
theorem bits_1 : isBits 1 (fun k => decide (k = 0)) := by
  have e : ∀ k, k < 10 → ((1 : Int32) &&& bitI k = 0 ↔ decide (k = 0) = false) := by decide +kernel
  exact e
def clos (p : Nat → Int32) (size : Nat) (c : Nat → Bool) : Nat → Bool
  | 0 => c 0
  | j + 1 => c (j + 1) || (decide (j < size) && decide (p j = -2) && clos p size c j)
theorem passMany_a {h : HH} {P size : Nat} (hr : RA P 0 = P + 1) (hl : lnA (P + 1) = 8) (hz : size ≤ 8) (hs : h P 1 = nI size) {x : Int32} {c : Nat → Bool} (hb : isBits x c) : ∃ y, fX1_passMany h RA P x = some y ∧ isBits y (clos (h (P + 1)) size c) := by
  have key := loop_inv (L := fX1_passMany_b4 h RA P x) (e := size) (I := fun i s => isBits s (fun k => if k ≤ i then clos (h (P + 1)) size c k else c k)) (g := fun s => some s) (fun n i s hi hI => by
    have hbit := hI i (by omega)
    simp only [Nat.le_refl, if_true] at hbit
    have nx : ∀ (d : Bool), d = (c (i + 1) || (decide (i < size) && decide (h (P + 1) i = -2) && clos (h (P + 1)) size c i)) → ∀ s', isBits s' (fun k => if k ≤ i then clos (h (P + 1)) size c k else if k = i + 1 then d else c k) → isBits s' (fun k => if k ≤ i + 1 then clos (h (P + 1)) size c k else c k) := by
      intro d hd s' hs'
      refine bits_congr hs' (fun k _ => ?_)
      by_cases e1 : k ≤ i
      · rw [if_pos e1, if_pos (by omega)]
      · rw [if_neg e1]
        by_cases e2 : k = i + 1
        · subst e2
          rw [if_pos rfl, if_pos (Nat.le_refl _), hd]
          rfl
        · rw [if_neg e2, if_neg (by omega)]
    have same : (decide (i < size) && decide (h (P + 1) i = -2) && clos (h (P + 1)) size c i) = false → isBits s (fun k => if k ≤ i + 1 then clos (h (P + 1)) size c k else c k) := by
      intro hf
      refine nx (c (i + 1)) (by rw [hf, Bool.or_false]) s (bits_congr hI (fun k _ => ?_))
      by_cases e1 : k ≤ i
      · rw [if_pos e1, if_pos e1]
      · rw [if_neg e1, if_neg e1]
        by_cases e2 : k = i + 1
        · rw [if_pos e2, e2]
        · rw [if_neg e2]
    rw [fX1_passMany_b4, hs, if_neg (nI_ge hi (by omega))]
    simp only [fX1_passMany_b39, hr, hl, n_p1, ix_n (show i < 2 ^ 31 by omega), gd_in (show i < 8 by omega) (show 8 < 2 ^ 31 by decide), lt_eq]
    have ebi : (1 <<< (nI i &&& 31) : Int32) = bitI i := rfl
    have ebj : (1 <<< (nI (i + 1) &&& 31) : Int32) = bitI (i + 1) := rfl
    rw [ebi, ebj]
    by_cases h0 : s &&& bitI i = 0
    · rw [if_pos h0]
      exact ⟨s, rfl, same (by rw [hbit.mp h0, Bool.and_false])⟩
    · rw [if_neg h0]
      by_cases h1 : h (P + 1) i = -2
      · rw [if_neg (fun z => z h1)]
        have hc : clos (h (P + 1)) size c i = true := by
          cases e : clos (h (P + 1)) size c i with
          | true => rfl
          | false => exact absurd (hbit.mpr e) h0
        refine ⟨_, rfl, nx true (by rw [hc]; simp [hi, h1]) _ (bits_congr (bits_add (j := i + 1) (by omega) hI) (fun k _ => ?_))⟩
        by_cases e1 : k ≤ i
        · rw [if_pos e1, if_pos e1]
          simp [show ¬ k = i + 1 by omega]
        · rw [if_neg e1, if_neg e1]
          by_cases e2 : k = i + 1
          · simp [e2]
          · simp [e2]
      · rw [if_pos h1]
        exact ⟨s, rfl, same (by simp [h1])⟩) (fun n s hI => by
    rw [fX1_passMany_b4, hs, if_pos (nI_le (Nat.le_refl size) (by omega))])
  obtain ⟨y, h1, h2⟩ := key lpF 0 x (by omega) (by rw [lpF_eq]; omega) (bits_congr hb (fun k _ => by
    by_cases e : k ≤ 0
    · rw [if_pos e, show k = 0 by omega]; rfl
    · rw [if_neg e]))
  refine ⟨y, ?_, ?_⟩
  · unfold fX1_passMany
    rw [l0, h2]
  · refine bits_congr h1 (fun k hk => ?_)
    by_cases e : k ≤ size
    · rw [if_pos e]
    · rw [if_neg e]
      obtain ⟨m, rfl⟩ : ∃ m, k = m + 1 := ⟨k - 1, by omega⟩
      simp [clos, show ¬ m < size by omega]
def aftI (p : Nat → Int32) (c : Nat → Bool) (nm : Int32) (i : Nat) : Nat → Bool
  | 0 => decide (0 < i) && c 0 && decide (p 0 = -2)
  | k + 1 => (decide (k + 1 < i) && c (k + 1) && decide (p (k + 1) = -2)) || (decide (k < i) && c k && !decide (p k = -2) && okN (p k) nm)
theorem aft_s {p : Nat → Int32} {c : Nat → Bool} {nm : Int32} {i k : Nat} : aftI p c nm i (k + 1) = ((decide (k + 1 < i) && c (k + 1) && decide (p (k + 1) = -2)) || (decide (k < i) && c k && !decide (p k = -2) && okN (p k) nm)) := rfl
theorem aft_stay {p : Nat → Int32} {c : Nat → Bool} {nm : Int32} {i : Nat} (h : c i = false ∨ (¬ p i = -2 ∧ okN (p i) nm = false)) (k : Nat) : aftI p c nm (i + 1) k = aftI p c nm i k := by
  have a1 : ∀ k, (decide (k < i + 1) && c k && decide (p k = -2)) = (decide (k < i) && c k && decide (p k = -2)) := by
    intro k
    by_cases e : k = i
    · subst e
      rcases h with h | h
      · simp [h]
      · simp [h.1]
    · rw [show decide (k < i + 1) = decide (k < i) by simp; omega]
  have a2 : ∀ k, (decide (k < i + 1) && c k && !decide (p k = -2) && okN (p k) nm) = (decide (k < i) && c k && !decide (p k = -2) && okN (p k) nm) := by
    intro k
    by_cases e : k = i
    · subst e
      rcases h with h | h
      · simp [h]
      · simp [h.2]
    · rw [show decide (k < i + 1) = decide (k < i) by simp; omega]
  cases k with
  | zero => exact a1 0
  | succ k => rw [aft_s, aft_s, a1, a2]
theorem aft_many {p : Nat → Int32} {c : Nat → Bool} {nm : Int32} {i : Nat} (hc : c i = true) (h : p i = -2) (k : Nat) : aftI p c nm (i + 1) k = (aftI p c nm i k || decide (k = i)) := by
  have a1 : ∀ k, (decide (k < i + 1) && c k && decide (p k = -2)) = ((decide (k < i) && c k && decide (p k = -2)) || decide (k = i)) := by
    intro k
    by_cases e : k = i
    · subst e
      simp [h, hc]
    · rw [show decide (k < i + 1) = decide (k < i) by simp; omega]
      simp [e]
  have a2 : ∀ k, (decide (k < i + 1) && c k && !decide (p k = -2) && okN (p k) nm) = (decide (k < i) && c k && !decide (p k = -2) && okN (p k) nm) := by
    intro k
    by_cases e : k = i
    · subst e
      simp [h]
    · rw [show decide (k < i + 1) = decide (k < i) by simp; omega]
  cases k with
  | zero => exact a1 0
  | succ k =>
    rw [aft_s, aft_s, a1, a2]
    simp only [Bool.or_assoc, Bool.or_comm, Bool.or_left_comm]
theorem aft_one {p : Nat → Int32} {c : Nat → Bool} {nm : Int32} {i : Nat} (hc : c i = true) (h : ¬ p i = -2) (ho : okN (p i) nm = true) (k : Nat) : aftI p c nm (i + 1) k = (aftI p c nm i k || decide (k = i + 1)) := by
  have a1 : ∀ k, (decide (k < i + 1) && c k && decide (p k = -2)) = (decide (k < i) && c k && decide (p k = -2)) := by
    intro k
    by_cases e : k = i
    · subst e
      simp [h]
    · rw [show decide (k < i + 1) = decide (k < i) by simp; omega]
  have a2 : ∀ k, (decide (k < i + 1) && c k && !decide (p k = -2) && okN (p k) nm) = ((decide (k < i) && c k && !decide (p k = -2) && okN (p k) nm) || decide (k + 1 = i + 1)) := by
    intro k
    by_cases e : k = i
    · subst e
      simp [h, hc, ho]
    · rw [show decide (k < i + 1) = decide (k < i) by simp; omega]
      simp [e]
  cases k with
  | zero => exact (a1 0).trans (by simp [aftI])
  | succ k =>
    rw [aft_s, aft_s, a1, a2]
    simp only [Bool.or_assoc]
theorem afterName_a {h : HH} {P size : Nat} (hr : RA P 0 = P + 1) (hl : lnA (P + 1) = 8) (hz : size ≤ 8) (hs : h P 1 = nI size) {x nm : Int32} {c : Nat → Bool} (hb : isBits x c) : ∃ y, fX1_afterName h RA P x nm = some y ∧ isBits y (aftI (h (P + 1)) c nm size) := by
  have key := loop_inv (L := fX1_afterName_b5 h RA P x nm) (e := size) (I := fun i s => isBits s (aftI (h (P + 1)) c nm i)) (g := fun s => some s) (fun n i s hi hI => by
    have hbit := hb i (by omega)
    rw [fX1_afterName_b5, hs, if_neg (nI_ge hi (by omega))]
    simp only [fX1_afterName_b79, fX1_afterName_b70, hr, hl, n_p1, ix_n (show i < 2 ^ 31 by omega), gd_in (show i < 8 by omega) (show 8 < 2 ^ 31 by decide), lt_eq]
    have ebi : (1 <<< (nI i &&& 31) : Int32) = bitI i := rfl
    have ebj : (1 <<< (nI (i + 1) &&& 31) : Int32) = bitI (i + 1) := rfl
    rw [ebi, ebj]
    by_cases h0 : x &&& bitI i = 0
    · rw [if_neg (fun z => z h0)]
      exact ⟨s, rfl, bits_congr hI (fun k _ => (aft_stay (Or.inl (hbit.mp h0)) k).symm)⟩
    · rw [if_pos h0]
      have hc : c i = true := by
        cases e : c i with
        | true => rfl
        | false => exact absurd (hbit.mpr e) h0
      by_cases h1 : h (P + 1) i = -2
      · rw [if_neg (fun z => z h1)]
        exact ⟨_, rfl, bits_congr (bits_add (j := i) (by omega) hI) (fun k _ => (aft_many hc h1 k).symm)⟩
      · rw [if_pos h1]
        by_cases h2 : h (P + 1) i = -1
        · rw [if_pos h2]
          exact ⟨_, rfl, bits_congr (bits_add (j := i + 1) (by omega) hI) (fun k _ => (aft_one hc h1 (by simp [okN, h2]) k).symm)⟩
        · rw [if_neg h2]
          by_cases h3 : h (P + 1) i = nm
          · rw [if_neg (fun z => z h3)]
            exact ⟨_, rfl, bits_congr (bits_add (j := i + 1) (by omega) hI) (fun k _ => (aft_one hc h1 (by simp [okN, h3]) k).symm)⟩
          · rw [if_pos h3]
            exact ⟨s, rfl, bits_congr hI (fun k _ => (aft_stay (Or.inr ⟨h1, by simp [okN, h2, h3]⟩) k).symm)⟩) (fun n s hI => by
    rw [fX1_afterName_b5, hs, if_pos (nI_le (Nat.le_refl size) (by omega))])
  obtain ⟨y, h1, h2⟩ := key lpF 0 0 (by omega) (by rw [lpF_eq]; omega) (bits_congr bits_0 (fun k _ => by cases k <;> simp [aftI]))
  refine ⟨y, ?_, h1⟩
  unfold fX1_afterName
  have h2 : fX1_afterName_b5 h RA P x nm lpF 0 (nI 0) = some y := h2
  rw [← l0] at h2
  exact h2
