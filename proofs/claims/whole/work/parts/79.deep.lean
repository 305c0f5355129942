/-! how deep -/
theorem dpS_m1 {v : TV} {K : Nat} : dpS v K (-1) = 0 := by
  cases K with
  | zero => rfl
  | succ K => unfold dpS; rw [if_pos (Or.inl (by decide))]
theorem dpS_succ {v : TV} {K g : Nat} (hg : g < 30) (e : isIn v g = true) : dpS v (K + 1) (nI g) = dpS v K (vF v g) + 1 := by
  rw [dpS, if_neg (not_out hg), ix_n (by omega), isIn_some e]
theorem deep_b {h : HH} {s : Nat} (hs : s < 3) (t0 : Int32) : ∀ (k n K j : Nat) (x : Int32), endsV (avM h s) k x → k < n → k ≤ K → fX8_deep_b12 h RM 1 (nI s) t0 n (nI j) x = some (nI (j + dpS (avM h s) K x)) := by
  intro k
  induction k with
  | zero =>
    intro n K j x he hn hK
    obtain ⟨n, rfl⟩ : ∃ m, n = m + 1 := ⟨n - 1, by omega⟩
    have he : x = -1 := he
    rw [fX8_deep_b12, if_pos he, he, dpS_m1]
    rfl
  | succ k ih =>
    intro n K j x he hn hK
    obtain ⟨n, rfl⟩ : ∃ m, n = m + 1 := ⟨n - 1, by omega⟩
    obtain ⟨K, rfl⟩ : ∃ m, K = m + 1 := ⟨K - 1, by omega⟩
    rcases he with he | ⟨g, hg, he, hin, hrec⟩
    · rw [fX8_deep_b12, if_pos he, he, dpS_m1]
      rfl
    · subst he
      rw [fX8_deep_b12, if_neg (m1_ne g (by omega)), dpS_succ hg hin]
      simp only [M_4, ln_7, gd_in hs (show 3 < 2 ^ 31 by decide), ix_n (show s < 2 ^ 31 by omega), R_7 s hs, L_7 s hs, gd_in hg n30, ix_n (show g < 2 ^ 31 by omega), lt_eq, n_p1]
      rw [(isInM_row hin).2.1, ih n K (j + 1) _ hrec (by omega) (by omega), show j + 1 + dpS (avM h s) K (vF (avM h s) g) = j + (dpS (avM h s) K (vF (avM h s) g) + 1) by omega]
theorem deep_m {h : HH} {s t n : Nat} {F : Nat → Bool} (hs : s < 3) (hin : isIn (avM h s) t = true) (hw : wfT n F (avM h s)) : fX8_deep h RM 1 (nI s) (nI t) = some (nI (dpS (avM h s) 29 (vF (avM h s) t))) := by
  have ht := isInM_lt hin
  unfold fX8_deep
  rw [M_4, ln_7, gd_in hs (by decide), ix_n (show s < 2 ^ 31 by omega), R_7 s hs, L_7 s hs, gd_in ht n30, ix_n (show t < 2 ^ 31 by omega), lt_eq, (isInM_row hin).2.1, l0, deep_b hs (nI t) 29 lpF 29 0 _ (hw t hin).2.2 (by rw [lpF_eq]; omega) (by omega), Nat.zero_add]
/-- the class tells the same -/
theorem depth_in {h : HH} {T t : Nat} (hT : isT T) (hin : isIn (avA h T) t = true) : fX5_depth h RA T (nI t) = some (nI (dpS (avA h T) 29 (vF (avA h T) t))) := by
  rw [depth_n hT, dpS_succ (isIn_lt hin) hin, nI_pred]
theorem depth_no {h : HH} {T t : Nat} (hT : isT T) (ht : t < 30) (hin : isIn (avA h T) t = false) : fX5_depth h RA T (nI t) = some (-1) := by
  have e : avA h T t = none := by
    unfold isIn at hin
    cases e : avA h T t with
    | none => rfl
    | some y => rw [e] at hin; cases hin
  rw [depth_n hT, dpS, if_neg (not_out ht), ix_n (by omega), e]
  rfl
