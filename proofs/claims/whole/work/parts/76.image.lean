/-! image and back -/
theorem cp_at0 {h : HH} {p q n k : Nat} (hk : k < n) : cpH h p q 0 0 n q k = h p k := by
  rw [cpH_at, if_pos (by omega), show 0 + (k - 0) = k by omega]
theorem cp_30 : cpok 0 0 30 30 30 = true := by decide
theorem cp_6 : cpok 0 0 6 6 6 = true := by decide
theorem ix_30 : ix 30 = 30 := by decide
theorem ix_6 : ix 6 = 6 := by decide
def cp4 (z : HH) (a b c d a' b' c' d' : Nat) : HH := cpH (cpH (cpH (cpH z a a' 0 0 30) b b' 0 0 30) c c' 0 0 30) d d' 0 0 30
theorem cp4_ne {z : HH} {a b c d a' b' c' d' q : Nat} (h1 : q ≠ a') (h2 : q ≠ b') (h3 : q ≠ c') (h4 : q ≠ d') : cp4 z a b c d a' b' c' d' q = z q := by
  unfold cp4
  rw [cpH_ne h4, cpH_ne h3, cpH_ne h2, cpH_ne h1]
theorem cp4_rows {z : HH} {a b c d a' b' c' d' k : Nat} (hk : k < 30) (h1 : a' ≠ b' ∧ a' ≠ c' ∧ a' ≠ d' ∧ b' ≠ c' ∧ b' ≠ d' ∧ c' ≠ d') (h2 : b ≠ a' ∧ c ≠ a' ∧ c ≠ b' ∧ d ≠ a' ∧ d ≠ b' ∧ d ≠ c') : cp4 z a b c d a' b' c' d' a' k = z a k ∧ cp4 z a b c d a' b' c' d' b' k = z b k ∧ cp4 z a b c d a' b' c' d' c' k = z c k ∧ cp4 z a b c d a' b' c' d' d' k = z d k := by
  obtain ⟨x1, x2, x3, x4, x5, x6⟩ := h1
  obtain ⟨y1, y2, y3, y4, y5, y6⟩ := h2
  unfold cp4
  refine ⟨?_, ?_, ?_, ?_⟩
  · rw [cpH_ne x3, cpH_ne x2, cpH_ne x1, cp_at0 hk]
  · rw [cpH_ne x5, cpH_ne x4, cp_at0 hk, cpH_ne y1]
  · rw [cpH_ne x6, cp_at0 hk, cpH_ne y3, cpH_ne y2]
  · rw [cp_at0 hk, cpH_ne y6, cpH_ne y5, cpH_ne y4]
theorem tv_eq {p1 p2 p3 p4 q1 q2 q3 q4 : Nat → Int32} (h : ∀ k, k < 30 → q1 k = p1 k ∧ q2 k = p2 k ∧ q3 k = p3 k ∧ q4 k = p4 k) : (fun t => if t < 30 then (if q1 t = 0 then none else some (q2 t, q3 t, q4 t)) else none : TV) = fun t => if t < 30 then (if p1 t = 0 then none else some (p2 t, p3 t, p4 t)) else none := by
  funext t
  by_cases ht : t < 30
  · obtain ⟨e1, e2, e3, e4⟩ := h t ht
    rw [if_pos ht, if_pos ht, e1, e2, e3, e4]
  · rw [if_neg ht, if_neg ht]
theorem i3_5 : inb 3 5 = true := by decide
theorem i4_5 : inb 4 5 = true := by decide
theorem ix_3 : ix 3 = 3 := by decide
theorem ix_4 : ix 4 = 4 := by decide
theorem R59_3 : RM 59 3 = 63 := R_59 3 (by decide)
theorem R59_4 : RM 59 4 = 64 := R_59 4 (by decide)
theorem L63 : lnM 63 = 30 := L_59 3 (by decide)
theorem L64 : lnM 64 = 30 := L_59 4 (by decide)
theorem cp_630 : cpok 0 0 6 6 30 = true := by decide
theorem image_mid (m : Nat) (z : HH) : fX8_image_b67 RM 1 (m + 1) z (nI 3) = fX8_image_b190 RM 1 lpF (cpH (cpH z 2 63 0 0 30) 20 64 0 0 6) 0 := by
  rw [fX8_image_b67, if_pos ((le3 (by omega)).mpr (Nat.le_refl 3))]
  generalize lpF = L
  rw [M_45, ln_59, gd_t i3_5, ix_3, R59_3, L63, M_2, ln_2, gd_t cp_30, lt_eq, gd_t i4_5, ix_4, R59_4, L64, M_12, ln_20, gd_t cp_630, lt_eq, ix_0, ix_30, ix_6]
theorem image_mid0 (m : Nat) (z : HH) : fX8_image_b67 RM 1 (m + 1) z (nI 3) = fX8_image_b190 RM 1 lpF (cpH (cpH z 2 63 0 0 30) 20 64 0 0 6) (nI 0) := by
  rw [image_mid, l0]
theorem image_loop {h : HH} : ∃ h', fX8_image_b67 RM 1 lpF h 0 = some (h' 1 0, h') ∧ (∀ q, q < 60 ∨ (q = 65) ∨ (q = 69) ∨ q = 73 ∨ q = 77 ∨ 85 ≤ q → h' q = h q) ∧ (∀ s, s < 3 → ∀ k, k < 30 → h' (60 + s) k = h (4 + s) k ∧ h' (66 + s) k = h (8 + s) k ∧ h' (70 + s) k = h (12 + s) k ∧ h' (74 + s) k = h (16 + s) k) ∧ (∀ k, k < 30 → h' 63 k = h 2 k) ∧ (∀ k, k < 6 → h' 64 k = h 20 k) ∧ (∀ p, p < 6 → ∀ k, k < 8 → h' (78 + p) k = h (23 + p) k) ∧ ∀ k, k < 6 → h' 84 k = h 21 k := by
  have key1 := loop_inv (L := fX8_image_b67 RM 1) (e := 3) (I := fun j z => (∀ q, q < 60 ∨ (63 ≤ q ∧ q < 66) ∨ q = 69 ∨ q = 73 ∨ 77 ≤ q → z q = h q) ∧ ∀ s, s < j → ∀ k, k < 30 → z (60 + s) k = h (4 + s) k ∧ z (66 + s) k = h (8 + s) k ∧ z (70 + s) k = h (12 + s) k ∧ z (74 + s) k = h (16 + s) k) (g := fun z => fX8_image_b190 RM 1 lpF (cpH (cpH z 2 63 0 0 30) 20 64 0 0 6) (nI 0)) (fun m j z hj hI => by
    obtain ⟨I1, I2⟩ := hI
    refine ⟨cp4 z (4 + j) (8 + j) (12 + j) (16 + j) (60 + j) (66 + j) (70 + j) (74 + j), ?_, fun q hq => (cp4_ne (by omega) (by omega) (by omega) (by omega)).trans (I1 q hq), fun s hs k hk => ?_⟩
    · rw [fX8_image_b67, if_neg (fun z => by have := (le3 (by omega)).mp z; omega)]
      simp only [M_3, M_4, M_5, M_6, M_45, M_46, M_47, M_48, ln_3, ln_7, ln_11, ln_15, ln_59, ln_65, ln_69, ln_73, gd_in hj (show 3 < 2 ^ 31 by decide), gd_in (show j < 5 by omega) (show 5 < 2 ^ 31 by decide), ix_n (show j < 2 ^ 31 by omega), R_3 j hj, R_7 j hj, R_11 j hj, R_15 j hj, R_59 j (by omega), R_65 j hj, R_69 j hj, R_73 j hj, L_3 j hj, L_7 j hj, L_11 j hj, L_15 j hj, L_59 j (by omega), L_65 j hj, L_69 j hj, L_73 j hj, gd_t cp_30, ix_0, ix_30, lt_eq, n_p1]
      rfl
    · by_cases e : s = j
      · subst e
        obtain ⟨q1, q2, q3, q4⟩ := cp4_rows (z := z) (a := 4 + s) (b := 8 + s) (c := 12 + s) (d := 16 + s) (a' := 60 + s) (b' := 66 + s) (c' := 70 + s) (d' := 74 + s) hk (by omega) (by omega)
        rw [I1 (4 + s) (by omega)] at q1
        rw [I1 (8 + s) (by omega)] at q2
        rw [I1 (12 + s) (by omega)] at q3
        rw [I1 (16 + s) (by omega)] at q4
        exact ⟨q1, q2, q3, q4⟩
      · rw [cp4_ne (by omega) (by omega) (by omega) (by omega), cp4_ne (by omega) (by omega) (by omega) (by omega), cp4_ne (by omega) (by omega) (by omega) (by omega), cp4_ne (by omega) (by omega) (by omega) (by omega)]
        exact I2 s (by omega) k hk) (fun m z hI => image_mid0 m z)
  obtain ⟨h1, ⟨I1, I2⟩, E1⟩ := key1 lpF 0 h (by omega) (by rw [lpF_eq]; omega) ⟨fun _ _ => rfl, fun s hs => by omega⟩
  have key2 := loop_inv (L := fX8_image_b190 RM 1) (e := 6) (I := fun j z => (∀ q, q < 78 ∨ 84 ≤ q → z q = cpH (cpH h1 2 63 0 0 30) 20 64 0 0 6 q) ∧ ∀ p, p < j → ∀ k, k < 8 → z (78 + p) k = h (23 + p) k) (g := fun z => some (cpH z 21 84 0 0 6 1 0, cpH z 21 84 0 0 6)) (fun m j z hj hI => by
    obtain ⟨J1, J2⟩ := hI
    refine ⟨cpH z (23 + j) (78 + j) 0 0 8, ?_, fun q hq => (cpH_ne (by omega)).trans (J1 q hq), fun p hp k hk => ?_⟩
    · rw [fX8_image_b190, if_neg (fun z => by have := (le6 (by omega)).mp z; omega)]
      simp only [M_14, M_49, ln_22, ln_77, gd_in hj (show 6 < 2 ^ 31 by decide), ix_n (show j < 2 ^ 31 by omega), R_22 j hj, R_77 j hj, L_22 j hj, L_77 j hj, gd_t cp_8, ix_0, ix_8, lt_eq, n_p1]
    · by_cases e : p = j
      · subst e
        rw [cp_at0 hk, J1 _ (by omega), cpH_ne (by omega), cpH_ne (by omega), I1 _ (by omega)]
      · rw [cpH_ne (by omega)]
        exact J2 p (by omega) k hk) (fun m z hI => by
    rw [fX8_image_b190, if_pos ((le6 (by omega)).mpr (Nat.le_refl 6))]
    simp only [M_13, M_50, ln_21, ln_84, gd_t cp_6, ix_0, ix_6, lt_eq])
  obtain ⟨h2, ⟨J1, J2⟩, E2⟩ := key2 lpF 0 (cpH (cpH h1 2 63 0 0 30) 20 64 0 0 6) (by omega) (by rw [lpF_eq]; omega) ⟨fun _ _ => rfl, fun p hp => by omega⟩
  have E1' : fX8_image_b67 RM 1 lpF h (nI 0) = fX8_image_b190 RM 1 lpF (cpH (cpH h1 2 63 0 0 30) 20 64 0 0 6) (nI 0) := E1
  have E2' : fX8_image_b190 RM 1 lpF (cpH (cpH h1 2 63 0 0 30) 20 64 0 0 6) (nI 0) = some (cpH h2 21 84 0 0 6 1 0, cpH h2 21 84 0 0 6) := E2
  refine ⟨cpH h2 21 84 0 0 6, by rw [l0, E1', E2'], fun q hq => ?_, fun s hs k hk => ?_, fun k hk => ?_, fun k hk => ?_, fun p hp k hk => ?_, fun k hk => ?_⟩
  · rw [cpH_ne (by omega), J1 q (by omega), cpH_ne (by omega), cpH_ne (by omega), I1 q (by omega)]
  · rw [cpH_ne (by omega), cpH_ne (by omega), cpH_ne (by omega), cpH_ne (by omega), J1 _ (by omega), J1 _ (by omega), J1 _ (by omega), J1 _ (by omega), cpH_ne (by omega), cpH_ne (by omega), cpH_ne (by omega), cpH_ne (by omega), cpH_ne (by omega), cpH_ne (by omega), cpH_ne (by omega), cpH_ne (by omega)]
    exact I2 s hs k hk
  · rw [cpH_ne (by decide), J1 _ (by omega), cpH_ne (by decide), cp_at0 hk, I1 _ (by omega)]
  · rw [cpH_ne (by decide), J1 _ (by omega), cp_at0 hk, cpH_ne (by decide), I1 _ (by omega)]
  · rw [cpH_ne (by omega)]; exact J2 p hp k hk
  · rw [cp_at0 hk, J1 _ (by omega), cpH_ne (by decide), cpH_ne (by decide), I1 _ (by omega)]
theorem i0_6 : inb 0 6 = true := by decide
theorem i1_6 : inb 1 6 = true := by decide
theorem i2_6 : inb 2 6 = true := by decide
theorem i3_6 : inb 3 6 = true := by decide
theorem i4_6 : inb 4 6 = true := by decide
theorem i5_6 : inb 5 6 = true := by decide
theorem ix_1 : ix 1 = 1 := by decide
theorem ix_2 : ix 2 = 2 := by decide
theorem ix_5 : ix 5 = 5 := by decide
theorem image_m {h : HH} {x : WS} (hw : wM h x) : ∃ h', fX8_image h RM 1 = some (nI x.1, h') ∧ imM h' x ∧ (∀ q, q < 58 ∨ 85 ≤ q → q ≠ 1 → h' q = h q) ∧ h' 1 43 = 1 ∧ ∀ j, j ≠ 43 → h' 1 j = h 1 j := by
  obtain ⟨n, F, V, P, pr, c0, c1, c2⟩ := x
  obtain ⟨a1, a2, a3, a4, a5, a6, a7, b1, b2, b3, b4, b5⟩ := hw
  obtain ⟨h', E, G, T, B1, B2, B3, B4⟩ := image_loop (h := up (up (up (up (up (up (up h 1 43 1) 58 0 (h 1 0)) 58 1 (h 1 1)) 58 2 (h 1 7)) 58 3 (h 1 8)) 58 4 (h 1 9)) 58 5 (h 1 11))
  have E0 : fX8_image h RM 1 = some (h' 1 0, h') := by
    unfold fX8_image
    have e : ∀ j, j ≠ 43 → up h 1 43 1 1 j = h 1 j := fun j hj => by rw [up_at, if_neg hj]
    rw [M_44, ln_58, lt_eq, gd_t i0_6, lt_eq, gd_t i1_6, lt_eq, gd_t i2_6, lt_eq, gd_t i3_6, lt_eq, gd_t i4_6, lt_eq, gd_t i5_6, lt_eq, ix_0, ix_1, ix_2, ix_3, ix_4, ix_5]
    have n58 : ∀ (z : HH) (k : Nat) (v : Int32) (j : Nat), up z 58 k v 1 j = z 1 j := fun z k v j => by rw [up_ne (by decide)]
    repeat rw [n58]
    rw [e 0 (by decide), e 1 (by decide), e 7 (by decide), e 8 (by decide), e 9 (by decide), e 11 (by decide)]
    exact E
  have r1 : ∀ j, j ≠ 43 → h' 1 j = h 1 j := fun j hj => by
    rw [G 1 (by omega), up_ne (by decide), up_ne (by decide), up_ne (by decide), up_ne (by decide), up_ne (by decide), up_ne (by decide), up_at, if_neg hj]
  have lo : ∀ q, q ≠ 1 → q ≠ 58 → up (up (up (up (up (up (up h 1 43 1) 58 0 (h 1 0)) 58 1 (h 1 1)) 58 2 (h 1 7)) 58 3 (h 1 8)) 58 4 (h 1 9)) 58 5 (h 1 11) q = h q := fun q k1 k2 => by rw [up_ne k2, up_ne k2, up_ne k2, up_ne k2, up_ne k2, up_ne k2, up_ne k1]
  have e58 := G 58 (by omega)
  refine ⟨h', by rw [E0, r1 0 (by decide), a2], ⟨a1, ?_, fun t ht => ?_, fun s hs => ?_, a5, ?_, fun i y hi => ?_, ?_, ?_, ?_, ?_, fun s hs t ht => by rw [(T s hs t ht).1, lo _ (by omega) (by omega)]; exact b5 s hs t ht⟩, fun q hq h1 => ?_, ?_, r1⟩
  · rw [e58, up_at, if_neg (by decide), up_at, if_neg (by decide), up_at, if_neg (by decide), up_at, if_neg (by decide), up_at, if_neg (by decide), up_same]; exact a2
  · rw [B1 t (by omega), lo 2 (by decide) (by decide)]; exact a3 t ht
  · rw [← a4 s hs]
    refine tv_eq (fun k hk => ?_)
    have := T s hs k hk
    rw [lo _ (by omega) (by omega), lo _ (by omega) (by omega), lo _ (by omega) (by omega), lo _ (by omega) (by omega)] at this
    exact this
  · rw [e58, up_same]; exact a6
  · have hl : i < P.length := (List.getElem?_eq_some_iff.mp hi).1
    obtain ⟨v1, v2, v3, v4⟩ := a7 i y hi
    refine ⟨v1, by rw [B4 i (by omega), lo 21 (by decide) (by decide)]; exact v2, by rw [B2 i (by omega), lo 20 (by decide) (by decide)]; exact v3, fun j z hz => ?_⟩
    have hj : j < y.1.length := (List.getElem?_eq_some_iff.mp hz).1
    rw [B3 i (by omega) j (by omega), lo _ (by omega) (by omega)]
    exact v4 j z hz
  · rw [e58, up_at, if_neg (by decide), up_at, if_neg (by decide), up_at, if_neg (by decide), up_at, if_neg (by decide), up_same]; exact b1
  · rw [e58, up_at, if_neg (by decide), up_at, if_neg (by decide), up_at, if_neg (by decide), up_same]; exact b2
  · rw [e58, up_at, if_neg (by decide), up_at, if_neg (by decide), up_same]; exact b3
  · rw [e58, up_at, if_neg (by decide), up_same]; exact b4
  · rw [G q (by omega), lo q h1 (by omega)]
  · rw [G 1 (by omega), up_ne (by decide), up_ne (by decide), up_ne (by decide), up_ne (by decide), up_ne (by decide), up_ne (by decide), up_same]
theorem s_image : S_image Inv := by
  rintro hA hM ⟨x, K, tp, S, i1, i2, i3, i4, i5, i6, i7⟩
  obtain ⟨h1, e1, w1, f1⟩ := world_become isW_35 isW_2 (Or.inr (by decide)) i4
  obtain ⟨h2, e2, w2, g1, g2, g3⟩ := image_m i5
  obtain ⟨m1, m2, m3, m4, m5⟩ := i7
  obtain ⟨p1, p2, p3, p4, p5, p6⟩ := i6
  have hx : up h1 1 3 1 2 0 = nI x.1 := by
    rw [up_ne (by decide), f1 2 (by omega)]
    obtain ⟨n, F, V, P, pr, c0, c1, c2⟩ := x
    exact i4.2.1
  refine ⟨_, up h1 1 3 1, h2, ?_, e2, x, some x, tp, S, i1, fun y hy => by cases hy; exact i1, i3, wA_eq (fun q k1 k2 => by rw [up_ne (by omega), f1 q (by omega)]) i4, ?_, ⟨by rw [up_same]; rfl, fun y hy => by cases hy; exact wA_eq (fun q k1 k2 => up_ne (by omega)) w1, p3, by rw [up_ne (by decide), f1 101 (by omega)]; exact p4, fun i y hy => by rw [up_ne (by decide), f1 102 (by omega)]; exact p5 i y hy, fun i hi => shA_eq (by rw [up_ne (by omega), f1 _ (by omega)]) (by rw [up_ne (by omega), f1 _ (by omega)]) (p6 i hi)⟩, ⟨by rw [g2]; rfl, fun y hy => by cases hy; exact w2, by rw [g3 16 (by decide)]; exact m3, fun i y hy => by rw [g1 29 (by omega) (by decide)]; exact m4 i y hy, fun i hi => shM_eq (g1 _ (by omega) (by decide)) (g1 _ (by omega) (by decide)) (g1 _ (by omega) (by omega)) (m5 i hi)⟩⟩
  · unfold fX7_image
    rw [A_10, A_11, e1, Option.bind_some, lt_eq, hx]
  · obtain ⟨n, F, V, P, pr, c0, c1, c2⟩ := x
    obtain ⟨d1, d2, d3, d4, d5, d6, d7, q1, q2, q3, q4, q5⟩ := i5
    exact ⟨d1, by rw [g3 0 (by decide)]; exact d2, fun t ht => by rw [g1 2 (by omega) (by decide)]; exact d3 t ht, fun s hs => (avM_eq (g1 _ (by omega) (by omega)) (g1 _ (by omega) (by omega)) (g1 _ (by omega) (by omega)) (g1 _ (by omega) (by omega))).trans (d4 s hs), d5, by rw [g3 11 (by decide)]; exact d6, fun i y hi => patM_eq (g1 _ (by omega) (by decide)) (g1 _ (by omega) (by decide)) (g1 _ (by have := (List.getElem?_eq_some_iff.mp hi).1; omega) (by omega)) (d7 i y hi), by rw [g3 1 (by decide)]; exact q1, by rw [g3 7 (by decide)]; exact q2, by rw [g3 8 (by decide)]; exact q3, by rw [g3 9 (by decide)]; exact q4, bM_eq (fun q _ _ => g1 q (by omega) (by omega)) q5⟩
