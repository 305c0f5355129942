/-! back -/
theorem cp_306 : cpok 0 0 6 30 6 = true := by decide
theorem back_mid (m : Nat) (z : HH) : fX8_back_b72 RM 1 (m + 1) z (nI 3) = fX8_back_b195 RM 1 lpF (cpH (cpH z 63 2 0 0 30) 64 20 0 0 6) 0 := by
  rw [fX8_back_b72, if_pos ((le3 (by omega)).mpr (Nat.le_refl 3))]
  generalize lpF = L
  rw [M_45, ln_59, gd_t i3_5, ix_3, R59_3, L63, M_2, ln_2, gd_t cp_30, lt_eq, gd_t i4_5, ix_4, R59_4, L64, M_12, ln_20, gd_t cp_306, lt_eq, ix_0, ix_30, ix_6]
theorem back_mid0 (m : Nat) (z : HH) : fX8_back_b72 RM 1 (m + 1) z (nI 3) = fX8_back_b195 RM 1 lpF (cpH (cpH z 63 2 0 0 30) 64 20 0 0 6) (nI 0) := by
  rw [back_mid, l0]
theorem back_loop {h : HH} : ∃ h', fX8_back_b72 RM 1 lpF h 0 = some (h' 1 0, h') ∧ (∀ q, q < 2 ∨ q = 29 ∨ 30 ≤ q → h' q = h q) ∧ (∀ s, s < 3 → ∀ k, k < 30 → h' (4 + s) k = h (60 + s) k ∧ h' (8 + s) k = h (66 + s) k ∧ h' (12 + s) k = h (70 + s) k ∧ h' (16 + s) k = h (74 + s) k) ∧ (∀ k, k < 30 → h' 2 k = h 63 k) ∧ (∀ k, k < 6 → h' 20 k = h 64 k) ∧ (∀ p, p < 6 → ∀ k, k < 8 → h' (23 + p) k = h (78 + p) k) ∧ ∀ k, k < 6 → h' 21 k = h 84 k := by
  have key1 := loop_inv (L := fX8_back_b72 RM 1) (e := 3) (I := fun j z => (∀ q, q < 4 ∨ 19 ≤ q → z q = h q) ∧ ∀ s, s < j → ∀ k, k < 30 → z (4 + s) k = h (60 + s) k ∧ z (8 + s) k = h (66 + s) k ∧ z (12 + s) k = h (70 + s) k ∧ z (16 + s) k = h (74 + s) k) (g := fun z => fX8_back_b195 RM 1 lpF (cpH (cpH z 63 2 0 0 30) 64 20 0 0 6) (nI 0)) (fun m j z hj hI => by
    obtain ⟨I1, I2⟩ := hI
    refine ⟨cp4 z (60 + j) (66 + j) (70 + j) (74 + j) (4 + j) (8 + j) (12 + j) (16 + j), ?_, fun q hq => (cp4_ne (by omega) (by omega) (by omega) (by omega)).trans (I1 q hq), fun s hs k hk => ?_⟩
    · rw [fX8_back_b72, if_neg (fun z => by have := (le3 (by omega)).mp z; omega)]
      simp only [M_3, M_4, M_5, M_6, M_45, M_46, M_47, M_48, ln_3, ln_7, ln_11, ln_15, ln_59, ln_65, ln_69, ln_73, gd_in hj (show 3 < 2 ^ 31 by decide), gd_in (show j < 5 by omega) (show 5 < 2 ^ 31 by decide), ix_n (show j < 2 ^ 31 by omega), R_3 j hj, R_7 j hj, R_11 j hj, R_15 j hj, R_59 j (by omega), R_65 j hj, R_69 j hj, R_73 j hj, L_3 j hj, L_7 j hj, L_11 j hj, L_15 j hj, L_59 j (by omega), L_65 j hj, L_69 j hj, L_73 j hj, gd_t cp_30, ix_0, ix_30, lt_eq, n_p1]
      rfl
    · by_cases e : s = j
      · subst e
        obtain ⟨q1, q2, q3, q4⟩ := cp4_rows (z := z) (a := 60 + s) (b := 66 + s) (c := 70 + s) (d := 74 + s) (a' := 4 + s) (b' := 8 + s) (c' := 12 + s) (d' := 16 + s) hk (by omega) (by omega)
        rw [I1 (60 + s) (by omega)] at q1
        rw [I1 (66 + s) (by omega)] at q2
        rw [I1 (70 + s) (by omega)] at q3
        rw [I1 (74 + s) (by omega)] at q4
        exact ⟨q1, q2, q3, q4⟩
      · rw [cp4_ne (by omega) (by omega) (by omega) (by omega), cp4_ne (by omega) (by omega) (by omega) (by omega), cp4_ne (by omega) (by omega) (by omega) (by omega), cp4_ne (by omega) (by omega) (by omega) (by omega)]
        exact I2 s (by omega) k hk) (fun m z hI => back_mid0 m z)
  obtain ⟨h1, ⟨I1, I2⟩, E1⟩ := key1 lpF 0 h (by omega) (by rw [lpF_eq]; omega) ⟨fun _ _ => rfl, fun s hs => by omega⟩
  have key2 := loop_inv (L := fX8_back_b195 RM 1) (e := 6) (I := fun j z => (∀ q, q < 23 ∨ 29 ≤ q → z q = cpH (cpH h1 63 2 0 0 30) 64 20 0 0 6 q) ∧ ∀ p, p < j → ∀ k, k < 8 → z (23 + p) k = h (78 + p) k) (g := fun z => some (cpH z 84 21 0 0 6 1 0, cpH z 84 21 0 0 6)) (fun m j z hj hI => by
    obtain ⟨J1, J2⟩ := hI
    refine ⟨cpH z (78 + j) (23 + j) 0 0 8, ?_, fun q hq => (cpH_ne (by omega)).trans (J1 q hq), fun p hp k hk => ?_⟩
    · rw [fX8_back_b195, if_neg (fun z => by have := (le6 (by omega)).mp z; omega)]
      simp only [M_14, M_49, ln_22, ln_77, gd_in hj (show 6 < 2 ^ 31 by decide), ix_n (show j < 2 ^ 31 by omega), R_22 j hj, R_77 j hj, L_22 j hj, L_77 j hj, gd_t cp_8, ix_0, ix_8, lt_eq, n_p1]
    · by_cases e : p = j
      · subst e
        rw [cp_at0 hk, J1 _ (by omega), cpH_ne (by omega), cpH_ne (by omega), I1 _ (by omega)]
      · rw [cpH_ne (by omega)]
        exact J2 p (by omega) k hk) (fun m z hI => by
    rw [fX8_back_b195, if_pos ((le6 (by omega)).mpr (Nat.le_refl 6))]
    simp only [M_13, M_50, ln_21, ln_84, gd_t cp_6, ix_0, ix_6, lt_eq])
  obtain ⟨h2, ⟨J1, J2⟩, E2⟩ := key2 lpF 0 (cpH (cpH h1 63 2 0 0 30) 64 20 0 0 6) (by omega) (by rw [lpF_eq]; omega) ⟨fun _ _ => rfl, fun p hp => by omega⟩
  have E1' : fX8_back_b72 RM 1 lpF h (nI 0) = fX8_back_b195 RM 1 lpF (cpH (cpH h1 63 2 0 0 30) 64 20 0 0 6) (nI 0) := E1
  have E2' : fX8_back_b195 RM 1 lpF (cpH (cpH h1 63 2 0 0 30) 64 20 0 0 6) (nI 0) = some (cpH h2 84 21 0 0 6 1 0, cpH h2 84 21 0 0 6) := E2
  refine ⟨cpH h2 84 21 0 0 6, by rw [l0, E1', E2'], fun q hq => ?_, fun s hs k hk => ?_, fun k hk => ?_, fun k hk => ?_, fun p hp k hk => ?_, fun k hk => ?_⟩
  · rw [cpH_ne (by omega), J1 q (by omega), cpH_ne (by omega), cpH_ne (by omega), I1 q (by omega)]
  · rw [cpH_ne (by omega), cpH_ne (by omega), cpH_ne (by omega), cpH_ne (by omega), J1 _ (by omega), J1 _ (by omega), J1 _ (by omega), J1 _ (by omega), cpH_ne (by omega), cpH_ne (by omega), cpH_ne (by omega), cpH_ne (by omega), cpH_ne (by omega), cpH_ne (by omega), cpH_ne (by omega), cpH_ne (by omega)]
    exact I2 s hs k hk
  · rw [cpH_ne (by decide), J1 _ (by omega), cpH_ne (by decide), cp_at0 hk, I1 _ (by omega)]
  · rw [cpH_ne (by decide), J1 _ (by omega), cp_at0 hk, cpH_ne (by decide), I1 _ (by omega)]
  · rw [cpH_ne (by omega)]; exact J2 p hp k hk
  · rw [cp_at0 hk, J1 _ (by omega), cpH_ne (by decide), cpH_ne (by decide), I1 _ (by omega)]
theorem back_m {h : HH} {x : WS} (hw : imM h x) (h43 : ¬ h 1 43 = 0) : ∃ h', fX8_back h RM 1 = some (nI x.1, h') ∧ wM h' x ∧ (∀ q, q = 29 ∨ 30 ≤ q → h' q = h q) ∧ h' 1 43 = h 1 43 ∧ h' 1 16 = h 1 16 := by
  obtain ⟨n, F, V, P, pr, c0, c1, c2⟩ := x
  obtain ⟨a1, a2, a3, a4, a5, a6, a7, b1, b2, b3, b4, b5⟩ := hw
  obtain ⟨h', E, G, T, B1, B2, B3, B4⟩ := back_loop (h := up (up (up (up (up (up h 1 0 (h 58 0)) 1 1 (h 58 1)) 1 7 (h 58 2)) 1 8 (h 58 3)) 1 9 (h 58 4)) 1 11 (h 58 5))
  have E0 : fX8_back h RM 1 = some (h' 1 0, h') := by
    unfold fX8_back
    have n1 : ∀ (z : HH) (k : Nat) (v : Int32) (j : Nat), up z 1 k v 58 j = z 58 j := fun z k v j => by rw [up_ne (by decide)]
    rw [if_pos h43, M_44, ln_58, gd_t i0_6, lt_eq, gd_t i1_6, lt_eq, gd_t i2_6, lt_eq, gd_t i3_6, lt_eq, gd_t i4_6, lt_eq, gd_t i5_6, lt_eq, ix_0, ix_1, ix_2, ix_3, ix_4, ix_5]
    repeat rw [n1]
    exact E
  have r1 : ∀ j, h' 1 j = if j = 11 then h 58 5 else if j = 9 then h 58 4 else if j = 8 then h 58 3 else if j = 7 then h 58 2 else if j = 1 then h 58 1 else if j = 0 then h 58 0 else h 1 j := fun j => by
    rw [G 1 (by omega), up_at, up_at, up_at, up_at, up_at, up_at]
  have lo : ∀ q, q ≠ 1 → up (up (up (up (up (up h 1 0 (h 58 0)) 1 1 (h 58 1)) 1 7 (h 58 2)) 1 8 (h 58 3)) 1 9 (h 58 4)) 1 11 (h 58 5) q = h q := fun q k1 => by rw [up_ne k1, up_ne k1, up_ne k1, up_ne k1, up_ne k1, up_ne k1]
  refine ⟨h', by rw [E0, r1 0]; exact congrArg some (congrArg (·, h') a2), ⟨a1, (r1 0).trans a2, fun t ht => ?_, fun s hs => ?_, a5, (r1 11).trans a6, fun i y hi => ?_, (r1 1).trans b1, (r1 7).trans b2, (r1 8).trans b3, (r1 9).trans b4, fun s hs t ht => by rw [(T s hs t ht).1, lo _ (by omega)]; exact b5 s hs t ht⟩, fun q hq => by rw [G q (by omega), lo q (by omega)], r1 43, r1 16⟩
  · rw [B1 t (by omega), lo 63 (by decide)]; exact a3 t ht
  · rw [← a4 s hs]
    refine tv_eq (fun k hk => ?_)
    have := T s hs k hk
    rw [lo _ (by omega), lo _ (by omega), lo _ (by omega), lo _ (by omega)] at this
    exact this
  · have hl : i < P.length := (List.getElem?_eq_some_iff.mp hi).1
    obtain ⟨v1, v2, v3, v4⟩ := a7 i y hi
    refine ⟨v1, by rw [B4 i (by omega), lo 84 (by decide)]; exact v2, by rw [B2 i (by omega), lo 64 (by decide)]; exact v3, fun j z hz => ?_⟩
    have hj : j < y.1.length := (List.getElem?_eq_some_iff.mp hz).1
    rw [B3 i (by omega) j (by omega), lo _ (by omega)]
    exact v4 j z hz
theorem s_back : S_back Inv := by
  rintro hA hM I0
  have I1 := I0
  obtain ⟨x, K, tp, S, i1, i2, i3, i4, i5, i6, i7⟩ := I0
  obtain ⟨m1, m2, m3, m4, m5⟩ := i7
  obtain ⟨p1, p2, p3, p4, p5, p6⟩ := i6
  cases K with
  | none =>
    refine ⟨-3, hA, hM, ?_, ?_, I1⟩
    · unfold fX7_back
      rw [p1, if_neg (fun z => z rfl)]
    · unfold fX8_back
      rw [m1, if_neg (fun z => z rfl)]
  | some y =>
    obtain ⟨h1, e1, w1, f1⟩ := world_become isW_2 isW_35 (Or.inl (by decide)) (p2 y rfl)
    obtain ⟨h2, e2, w2, g1, g2, g3⟩ := back_m (m2 y rfl) (by rw [m1]; exact (show ¬ (1 : Int32) = 0 by decide))
    refine ⟨_, h1, h2, ?_, e2, y, some y, tp, S, i2 y rfl, i2, i3, w1, w2, ?_, ?_⟩
    · unfold fX7_back
      rw [p1, if_pos (show ¬ b2i (some y).isSome = 0 from (show ¬ (1 : Int32) = 0 by decide)), A_10, A_11, e1, Option.bind_some]
      obtain ⟨n, F, V, P, pr, c0, c1, c2⟩ := y
      rw [w1.2.1]
    · exact reA_W f1 ⟨p1, p2, p3, p4, p5, p6⟩
    · exact reM_eq g2 g3 (fun q hq => g1 q (by omega)) ⟨m1, m2, m3, m4, m5⟩
