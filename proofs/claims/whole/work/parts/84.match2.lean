/-! a pattern of the reference matches -/
theorem doesMatch_m {h : HH} {p len size : Nat} (hp : p < 6) (hl : len ≤ 30) (hs : size ≤ 8) (h22 : h 1 22 = nI len) (hm : h 21 p = nI size) : ∃ h', fX8_doesMatch h RM 1 (nI p) = some (b2i (col (h 30) (h (23 + p)) size len), h') ∧ ∀ q, q ≠ 31 → h' q = h q := by
  have key1 := loop_inv (L := fX8_doesMatch_b2 RM 1 (nI p)) (e := len + 1) (I := fun j z => (∀ q, q ≠ 31 → z q = h q) ∧ ∀ i, i < j → z 31 i = b2i (decide (i = 0))) (g := fun z => fX8_doesMatch_b33 RM 1 (nI p) lpF z (nI 0)) (fun n j z hj hI => by
    obtain ⟨I1, I2⟩ := hI
    have e22 : z 1 22 = nI len := by rw [I1 1 (by decide)]; exact h22
    refine ⟨up z 31 j (b2i (decide (j = 0))), ?_, fun q hq => (up_ne hq).trans (I1 q hq), fun i hi => ?_⟩
    · rw [fX8_doesMatch_b2, e22, if_neg (fun z => by have := (nI_ltI (show len < 2 ^ 31 by omega) (show j < 2 ^ 31 by omega)).mp z; omega)]
      simp only [fX8_doesMatch_b24, M_24, ln_31, gd_in (show j < 31 by omega) (show 31 < 2 ^ 31 by decide), lt_eq, ix_n (show j < 2 ^ 31 by omega), n_p1, zn_0, zn_1]
      by_cases j0 : j = 0
      · subst j0
        rw [if_neg (show ¬ ¬ nI 0 = 0 from fun z => z rfl)]
        rfl
      · rw [if_pos (nI_ne0 (by omega) (by omega))]
        simp [j0, b2i]
    · rw [up_at]
      by_cases e : i = j
      · rw [if_pos e, e]
      · rw [if_neg e]; exact I2 i (by omega)) (fun n z hI => by
    have e22 : z 1 22 = nI len := by rw [hI.1 1 (by decide)]; exact h22
    rw [fX8_doesMatch_b2, e22, if_pos (nI_lt (by omega) (by omega)), l0])
  obtain ⟨h1, ⟨I1, I2⟩, E1⟩ := key1 lpF 0 h (by omega) (by rw [lpF_eq]; omega) ⟨fun _ _ => rfl, fun i hi => by omega⟩
  have key2 := loop_inv (L := fX8_doesMatch_b33 RM 1 (nI p)) (e := size) (I := fun j z => (∀ q, q ≠ 31 → z q = h q) ∧ ∀ i, i ≤ len → z 31 i = b2i (col (h 30) (h (23 + p)) j i)) (g := fun z => some (b2i (col (h 30) (h (23 + p)) size len), z)) (fun n j z hj hI => by
    obtain ⟨J1, J2⟩ := hI
    have e22 : z 1 22 = nI len := by rw [J1 1 (by decide)]; exact h22
    have e21 : z 21 p = nI size := by rw [J1 21 (by decide)]; exact hm
    have e23 : z (23 + p) = h (23 + p) := J1 _ (by omega)
    have e30 : z 30 = h 30 := J1 30 (by decide)
    rw [fX8_doesMatch_b33, M_13, M_14, ln_21, ln_22, gd_in hp (by decide), ix_n (show p < 2 ^ 31 by omega), e21, if_neg (nI_ge hj (by omega)), gd_in hp (by decide), R_22 p hp, L_22 p hp, gd_in (show j < 8 by omega) (by decide), ix_n (show j < 2 ^ 31 by omega), lt_eq, e23, e22, lt_eq]
    by_cases e : h (23 + p) j = -2
    · rw [if_neg (fun z => z e)]
      obtain ⟨z', f1, f2, f3⟩ := match_many (nI p) hl (fun h_ z2_ => fX8_doesMatch_b33 RM 1 (nI p) n h_ z2_) (nI j) (col (h 30) (h (23 + p)) j) z e22 J2
      exact ⟨z', by rw [f1, n_p1], fun q hq => (f2 q hq).trans (J1 q hq), fun i hi => by rw [f3 i hi, col_many e]⟩
    · rw [if_pos e]
      obtain ⟨z', f1, f2, f3⟩ := match_one (r := h 30) (nI p) hl (fun h_ z2_ => fX8_doesMatch_b33 RM 1 (nI p) n h_ z2_) (nI j) (h (23 + p) j) (col (h 30) (h (23 + p)) j) len 4095 z (Nat.le_refl _) (by omega) (fun i _ => by rw [e30]) J2 (fun i k1 k2 => by omega)
      refine ⟨z', f1.trans (by rw [n_p1]), fun q hq => (f2 q hq).trans (J1 q hq), fun i hi => ?_⟩
      rw [f3 i hi]
      cases i with
      | zero => rw [col_0 e]; rfl
      | succ i => rw [col_1 e]; rfl) (fun n z hI => by
    obtain ⟨J1, J2⟩ := hI
    have e22 : z 1 22 = nI len := by rw [J1 1 (by decide)]; exact h22
    have e21 : z 21 p = nI size := by rw [J1 21 (by decide)]; exact hm
    rw [fX8_doesMatch_b33, M_13, ln_21, gd_in hp (by decide), ix_n (show p < 2 ^ 31 by omega), e21, if_pos (nI_le (Nat.le_refl size) (by omega)), M_24, ln_31, e22, gd_in (show len < 31 by omega) (by decide), ix_n (show len < 2 ^ 31 by omega), J2 len (Nat.le_refl _), bz_t (b2i_01 _)])
  obtain ⟨h2, ⟨J1, J2⟩, E2⟩ := key2 lpF 0 h1 (by omega) (by rw [lpF_eq]; omega) ⟨I1, fun i hi => I2 i (by omega)⟩
  have E1' : fX8_doesMatch_b2 RM 1 (nI p) lpF h (nI 0) = fX8_doesMatch_b33 RM 1 (nI p) lpF h1 (nI 0) := E1
  have E2' : fX8_doesMatch_b33 RM 1 (nI p) lpF h1 (nI 0) = some (b2i (col (h 30) (h (23 + p)) size len), h2) := E2
  refine ⟨h2, ?_, J1⟩
  unfold fX8_doesMatch
  rw [l0, E1', E2']
