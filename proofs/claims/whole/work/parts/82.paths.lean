/-! both paths -/
def plen (v : TV) (t : Nat) : Nat := dpS v 29 (vF v t) + 1
def pathR (r : Nat → Int32) (v : TV) (t : Nat) : Prop := ∀ i, i < plen v t → r i = (upN v 30 (nI t)).getD (plen v t - 1 - i) 0
theorem plen_le {v : TV} {t : Nat} : plen v t ≤ 30 := by
  have := dpS_le (v := v) (k := 29) (x := vF v t)
  unfold plen
  omega
theorem pathOf_a {h : HH} {T P t n : Nat} {F : Nat → Bool} (hT : isT T) (hP : lnA P = 30) (dP : P < T ∨ T + 5 ≤ P) (hin : isIn (avA h T) t = true) (hw : wfT n F (avA h T)) : ∃ h', fX5_pathOf h RA T (nI t) P = some (nI (plen (avA h T) t), h') ∧ (∀ q, q ≠ P → h' q = h q) ∧ pathR (h' P) (avA h T) t := by
  have ht := isIn_lt hin
  have e30 : dpS (avA h T) 30 (nI t) = plen (avA h T) t := dpS_succ ht hin
  have he : endsV (avA h T) 30 (nI t) := Or.inr ⟨t, ht, rfl, hin, (hw t hin).2.2⟩
  obtain ⟨h', e1, e2, e3, -⟩ := pathOf_b (v := avA h T) hT hP dP (nI t) (nI (plen (avA h T) t)) 30 lpF h (nI t) rfl (Nat.le_refl _) he (by rw [lpF_eq]; omega)
  rw [e30] at e1 e3
  refine ⟨h', ?_, e2, e3⟩
  unfold fX5_pathOf
  rw [depth_in hT hin, Option.bind_some, lt_eq, lt_eq, n_p1]
  exact e1
theorem tellPath_m {h : HH} {s t n : Nat} {F : Nat → Bool} (hs : s < 3) (hin : isIn (avM h s) t = true) (hw : wfT n F (avM h s)) : ∃ h', fX8_tellPath h RM 1 (nI s) (nI t) = some h' ∧ (∀ q, q ≠ 30 → q ≠ 1 → h' q = h q) ∧ (∀ j, j ≠ 22 → h' 1 j = h 1 j) ∧ h' 1 22 = nI (plen (avM h s) t) ∧ pathR (h' 30) (avM h s) t := by
  have ht := isInM_lt hin
  have e30 : dpS (avM h s) 30 (nI t) = plen (avM h s) t := dpS_succ ht hin
  have he : endsV (avM h s) 30 (nI t) := Or.inr ⟨t, ht, rfl, hin, (hw t hin).2.2⟩
  have hv : avM (up h 1 22 (nI (plen (avM h s) t))) s = avM h s := avM_eq (up_ne (by omega)) (up_ne (by omega)) (up_ne (by omega)) (up_ne (by omega))
  obtain ⟨h', e1, e2, e3, -⟩ := tellPath_b (v := avM h s) hs (nI t) 30 lpF (up h 1 22 (nI (plen (avM h s) t))) (nI t) hv (Nat.le_refl _) he (by rw [lpF_eq]; omega)
  rw [e30] at e1 e3
  refine ⟨h', ?_, fun q h1 h2 => by rw [e2 q h1, up_ne h2], fun j hj => by rw [e2 1 (by decide), up_at, if_neg hj], by rw [e2 1 (by decide), up_same], e3⟩
  unfold fX8_tellPath
  rw [deep_m hs hin hw, Option.bind_some, lt_eq, n_p1, lt_eq]
  have ep : nI (dpS (avM h s) 29 (vF (avM h s) t) + 1) = nI (plen (avM h s) t) := rfl
  rw [ep, up_same]
  exact e1
