/-! paths: names on the way up -/
def upN (v : TV) : Nat → Int32 → List Int32
  | 0, _ => []
  | k + 1, x => if x < 0 ∨ (30 : Int32) ≤ x then [] else match v (ix x) with
    | none => []
    | some (f, n, _) => n :: upN v k f
theorem upN_m1 {v : TV} {K : Nat} : upN v K (-1) = [] := by
  cases K with
  | zero => rfl
  | succ K => unfold upN; rw [if_pos (Or.inl (by decide))]
theorem upN_succ {v : TV} {K g : Nat} (hg : g < 30) (e : isIn v g = true) : upN v (K + 1) (nI g) = vN v g :: upN v K (vF v g) := by
  rw [upN, if_neg (not_out hg), ix_n (by omega), isIn_some e]
theorem pathOf_b {T P : Nat} {v : TV} (hT : isT T) (hP : lnA P = 30) (dP : P < T ∨ T + 5 ≤ P) (a1 x3 : Int32) : ∀ (k n : Nat) (h : HH) (x : Int32), avA h T = v → k ≤ 30 → endsV v k x → k < n → ∃ h', fX5_pathOf_b16 RA T a1 P n h x3 x (nI (dpS v k x) - 1) = some (x3, h') ∧ (∀ q, q ≠ P → h' q = h q) ∧ (∀ i, i < dpS v k x → h' P i = (upN v k x).getD (dpS v k x - 1 - i) 0) ∧ ∀ i, dpS v k x ≤ i → h' P i = h P i := by
  intro k
  induction k with
  | zero =>
    intro n h x hv hk he hn
    obtain ⟨n, rfl⟩ : ∃ m, n = m + 1 := ⟨n - 1, by omega⟩
    refine ⟨h, ?_, fun _ _ => rfl, fun i hi => absurd hi (by unfold dpS; omega), fun _ _ => rfl⟩
    rw [fX5_pathOf_b16, if_pos (show nI (dpS v 0 x) - 1 < 0 from (show nI 0 - 1 < 0 by decide))]
  | succ k ih =>
    intro n h x hv hk he hn
    obtain ⟨n, rfl⟩ : ∃ m, n = m + 1 := ⟨n - 1, by omega⟩
    rcases he with he | ⟨g, hg, he, hin, hrec⟩
    · subst he
      refine ⟨h, ?_, fun _ _ => rfl, fun i hi => by rw [dpS_m1] at hi; omega, fun _ _ => rfl⟩
      rw [fX5_pathOf_b16, dpS_m1, if_pos (by decide)]
    · subst he
      have hd := dpS_le (v := v) (k := k) (x := vF v g)
      have hin2 : isIn (avA h T) g = true := by rw [hv]; exact hin
      obtain ⟨q1, q2, q3, q4⟩ := isIn_row hin2
      have hv2 : avA (up h P (dpS v k (vF v g)) (vN v g)) T = v := (avA_eq (up_ne (by omega)) (up_ne (by omega)) (up_ne (by omega)) (up_ne (by omega))).trans hv
      obtain ⟨h', e1, e2, e3, e4⟩ := ih n (up h P (dpS v k (vF v g)) (vN v g)) (vF v g) hv2 (by omega) hrec (by omega)
      have ln : (Int32.ofNat 30) = nI 30 := rfl
      rw [dpS_succ hg hin, upN_succ hg hin, nI_pred]
      refine ⟨h', ?_, fun q hq => (e2 q hq).trans (up_ne hq), fun i hi => ?_, fun i hi => ?_⟩
      · obtain ⟨r0, r1, r2, r3, n0, n1, n2, n3⟩ := hT
        rw [fX5_pathOf_b16, if_neg (n_lt0 _ (by omega)), hP, ln, if_neg (nI_ge (show dpS v k (vF v g) < 30 by omega) n30), has_n ⟨r0, r1, r2, r3, n0, n1, n2, n3⟩ hg, Option.bind_some, hin2, b2i_if, if_pos rfl, r2, n2, gd_in hg n30, gd_in (show dpS v k (vF v g) < 30 by omega) n30, lt_eq, ix_n (show g < 2 ^ 31 by omega), ix_n (show dpS v k (vF v g) < 2 ^ 31 by omega), r1, n1, gd_in hg n30, lt_eq, up_ne (show T + 2 ≠ P by omega), q2, q3, hv, show nI (dpS v k (vF v g)) + (-1) = nI (dpS v k (vF v g)) - 1 from (Int32.sub_eq_add_neg _ _).symm]
        exact e1
      · by_cases ei : i = dpS v k (vF v g)
        · rw [ei, e4 _ (Nat.le_refl _), up_same, show dpS v k (vF v g) + 1 - 1 - dpS v k (vF v g) = 0 by omega]
          rfl
        · rw [e3 i (by omega), show dpS v k (vF v g) + 1 - 1 - i = (dpS v k (vF v g) - 1 - i) + 1 by omega]
          rfl
      · rw [e4 i (by omega), up_at, if_neg (by omega)]
