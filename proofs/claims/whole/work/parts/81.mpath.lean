/-! paths of the reference -/
theorem tellPath_b {s : Nat} {v : TV} (hs : s < 3) (t0 : Int32) : ∀ (k n : Nat) (h : HH) (x : Int32), avM h s = v → k ≤ 30 → endsV v k x → k < n → ∃ h', fX8_tellPath_b20 RM 1 (nI s) t0 n h (nI (dpS v k x)) x = some h' ∧ (∀ q, q ≠ 30 → h' q = h q) ∧ (∀ i, i < dpS v k x → h' 30 i = (upN v k x).getD (dpS v k x - 1 - i) 0) ∧ ∀ i, dpS v k x ≤ i → h' 30 i = h 30 i := by
  intro k
  induction k with
  | zero =>
    intro n h x hv hk he hn
    obtain ⟨n, rfl⟩ : ∃ m, n = m + 1 := ⟨n - 1, by omega⟩
    refine ⟨h, ?_, fun _ _ => rfl, fun i hi => absurd hi (by unfold dpS; omega), fun _ _ => rfl⟩
    have he : x = -1 := he
    rw [fX8_tellPath_b20, if_pos he]
  | succ k ih =>
    intro n h x hv hk he hn
    obtain ⟨n, rfl⟩ : ∃ m, n = m + 1 := ⟨n - 1, by omega⟩
    rcases he with he | ⟨g, hg, he, hin, hrec⟩
    · subst he
      refine ⟨h, ?_, fun _ _ => rfl, fun i hi => by rw [dpS_m1] at hi; omega, fun _ _ => rfl⟩
      rw [fX8_tellPath_b20, if_pos rfl]
    · subst he
      have hd := dpS_le (v := v) (k := k) (x := vF v g)
      have hin2 : isIn (avM h s) g = true := by rw [hv]; exact hin
      obtain ⟨q1, q2, q3, q4⟩ := isInM_row hin2
      have hv2 : avM (up h 30 (dpS v k (vF v g)) (vN v g)) s = v := (avM_eq (up_ne (by omega)) (up_ne (by omega)) (up_ne (by omega)) (up_ne (by omega))).trans hv
      obtain ⟨h', e1, e2, e3, e4⟩ := ih n (up h 30 (dpS v k (vF v g)) (vN v g)) (vF v g) hv2 (by omega) hrec (by omega)
      have pm : nI (dpS v k (vF v g) + 1) + (-1) = nI (dpS v k (vF v g)) := by
        rw [show nI (dpS v k (vF v g) + 1) + (-1) = nI (dpS v k (vF v g) + 1) - 1 from (Int32.sub_eq_add_neg _ _).symm, nI_pred]
      rw [dpS_succ hg hin, upN_succ hg hin]
      refine ⟨h', ?_, fun q hq => (e2 q hq).trans (up_ne hq), fun i hi => ?_, fun i hi => ?_⟩
      · rw [fX8_tellPath_b20, if_neg (m1_ne g (by omega)), M_4, M_5, M_23, ln_7, ln_11, ln_30, pm, gd_in hs (by decide), ix_n (show s < 2 ^ 31 by omega), R_11 s hs, L_11 s hs, gd_in hg n30, gd_in (show dpS v k (vF v g) < 30 by omega) n30, lt_eq, ix_n (show g < 2 ^ 31 by omega), ix_n (show dpS v k (vF v g) < 2 ^ 31 by omega), gd_in hs (by decide), R_7 s hs, L_7 s hs, gd_in hg n30, lt_eq, up_ne (show 8 + s ≠ 30 by omega), q2, q3, hv]
        exact e1
      · by_cases ei : i = dpS v k (vF v g)
        · rw [ei, e4 _ (Nat.le_refl _), up_same, show dpS v k (vF v g) + 1 - 1 - dpS v k (vF v g) = 0 by omega]
          rfl
        · rw [e3 i (by omega), show dpS v k (vF v g) + 1 - 1 - i = (dpS v k (vF v g) - 1 - i) + 1 by omega]
          rfl
      · rw [e4 i (by omega), up_at, if_neg (by omega)]
