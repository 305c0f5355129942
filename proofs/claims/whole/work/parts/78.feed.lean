/-! feed -/
theorem A_101 : RA 101 0 = 102 := by decide +kernel
theorem A_102 : lnA 102 = 40 := by decide +kernel
def tpA (h : HH) (tp : List Int32) : Prop := h 101 1 = nI tp.length ∧ ∀ i y, tp[i]? = some y → h 102 i = y
theorem app_get {l : List Int32} {v : Int32} {i : Nat} {y : Int32} (h : (l ++ [v])[i]? = some y) : i < l.length ∧ l[i]? = some y ∨ i = l.length ∧ y = v := by
  by_cases e : i < l.length
  · rw [List.getElem?_append_left e] at h
    exact Or.inl ⟨e, h⟩
  · rw [List.getElem?_append_right (by omega)] at h
    have : i - l.length < 1 := by
      have := (List.getElem?_eq_some_iff.mp h).1
      simpa using this
    have e2 : i = l.length := by omega
    subst e2
    rw [Nat.sub_self] at h
    exact Or.inr ⟨rfl, (Option.some.inj h).symm⟩
theorem append_a {h : HH} {tp : List Int32} (v : Int32) (ht : tpA h tp) (hl : tp.length < 40) : ∃ h', fX4_append h RA 101 v = some h' ∧ tpA h' (tp ++ [v]) ∧ ∀ q, q ≠ 101 → q ≠ 102 → h' q = h q := by
  obtain ⟨t1, t2⟩ := ht
  refine ⟨up (up h 102 tp.length v) 101 1 (nI (tp.length + 1)), ?_, ⟨?_, fun i y hi => ?_⟩, fun q h1 h2 => by rw [up_ne h1, up_ne h2]⟩
  · unfold fX4_append
    rw [t1, if_neg (fun z => by have := (le40 (by omega)).mp z; omega), A_101, A_102, gd_in hl n40, lt_eq, ix_n (by omega), up_ne (show (101 : Nat) ≠ 102 by decide), t1, n_p1, lt_eq]
  · rw [up_same]; simp
  · rw [up_ne (by decide), up_at]
    rcases app_get hi with ⟨k1, k2⟩ | ⟨k1, k2⟩
    · rw [if_neg (by omega)]; exact t2 i y k2
    · rw [if_pos k1, k2]
def byB (a : Int32) : Bool := !(decide (a < 0)) && !(decide (255 < a))
theorem isByte_a {h : HH} (a : Int32) : fX7_isByte h RA a = some (b2i (byB a)) := by
  unfold fX7_isByte fX7_isByte_b15 byB
  by_cases h1 : a < 0
  · simp [h1, b2i]
  · by_cases h2 : 255 < a <;> simp [h1, h2, b2i]
theorem isByte_m {h : HH} (a : Int32) : fX8_isByte h RM a = some (b2i (byB a)) := by
  unfold fX8_isByte byB
  rw [in_m, Option.bind_some, bz_t (b2i_01 _)]
def fdl (a b c d e : Int32) (j : Nat) : Int32 := if j = 0 then a else if j = 1 then b else if j = 2 then c else if j = 3 then d else e
theorem feed_loop {h : HH} {m k : Nat} (a b c d e : Int32) (hk : k ≤ 5) (hm : m + k ≤ 40) (h16 : h 1 16 = nI m) : ∃ h', fX8_feed_b67 RM 1 (nI k) a b c d e lpF h 0 = some (nI (m + k), h') ∧ (∀ q, q ≠ 1 → q ≠ 29 → h' q = h q) ∧ (∀ j, j ≠ 16 → h' 1 j = h 1 j) ∧ h' 1 16 = nI (m + k) ∧ (∀ i, i < m → h' 29 i = h 29 i) ∧ ∀ j, j < k → h' 29 (m + j) = fdl a b c d e j := by
  have key := loop_inv (L := fX8_feed_b67 RM 1 (nI k) a b c d e) (e := k) (I := fun j z => (∀ q, q ≠ 29 → z q = h q) ∧ (∀ i, i < m → z 29 i = h 29 i) ∧ ∀ i, i < j → z 29 (m + i) = fdl a b c d e i) (g := fun z => some (nI (m + k), up z 1 16 (nI (m + k)))) (fun n j z hj hI => by
    obtain ⟨I1, I2, I3⟩ := hI
    have e16 : z 1 16 = nI m := by rw [I1 1 (by decide)]; exact h16
    refine ⟨up z 29 (m + j) (fdl a b c d e j), ?_, fun q hq => (up_ne hq).trans (I1 q hq), fun i hi => ?_, fun i hi => ?_⟩
    · rw [fX8_feed_b67, if_neg (nI_ge hj (by omega)), e16, nI_add, M_15]
      have st : ∀ v : Int32, v = fdl a b c d e j → fX8_feed_b127 RM 1 (nI k) a b c d e (fun h_ z7_ => fX8_feed_b67 RM 1 (nI k) a b c d e n h_ z7_) z 29 (nI (m + j)) v (nI j) = fX8_feed_b67 RM 1 (nI k) a b c d e n (up z 29 (m + j) (fdl a b c d e j)) (nI (j + 1)) := by
        intro v hv
        unfold fX8_feed_b127
        rw [ln_29, gd_in (show m + j < 40 by omega) n40, lt_eq, ix_n (show m + j < 2 ^ 31 by omega), n_p1, hv]
      have cj : j = 0 ∨ j = 1 ∨ j = 2 ∨ j = 3 ∨ j = 4 := by omega
      rcases cj with rfl | rfl | rfl | rfl | rfl
      · rw [if_neg (show ¬ ¬ nI 0 = 0 from fun z => z rfl)]; exact st a rfl
      · rw [if_pos (show ¬ nI 1 = 0 by decide), if_neg (show ¬ ¬ nI 1 = 1 from fun z => z rfl)]; exact st b rfl
      · rw [if_pos (show ¬ nI 2 = 0 by decide), if_pos (show ¬ nI 2 = 1 by decide), if_neg (show ¬ ¬ nI 2 = 2 from fun z => z rfl)]; exact st c rfl
      · rw [if_pos (show ¬ nI 3 = 0 by decide), if_pos (show ¬ nI 3 = 1 by decide), if_pos (show ¬ nI 3 = 2 by decide), if_neg (show ¬ ¬ nI 3 = 3 from fun z => z rfl)]; exact st d rfl
      · rw [if_pos (show ¬ nI 4 = 0 by decide), if_pos (show ¬ nI 4 = 1 by decide), if_pos (show ¬ nI 4 = 2 by decide), if_pos (show ¬ nI 4 = 3 by decide)]; exact st e rfl
    · rw [up_at, if_neg (by omega)]; exact I2 i hi
    · rw [up_at]
      by_cases g : i = j
      · rw [if_pos (by omega), g]
      · rw [if_neg (by omega)]; exact I3 i (by omega)) (fun n z hI => by
    have e16 : z 1 16 = nI m := by rw [hI.1 1 (by decide)]; exact h16
    rw [fX8_feed_b67, if_pos (nI_le (Nat.le_refl k) (by omega)), e16, nI_add, lt_eq, up_same])
  obtain ⟨z, ⟨I1, I2, I3⟩, E⟩ := key lpF 0 h (by omega) (by rw [lpF_eq]; omega) ⟨fun _ _ => rfl, fun _ _ => rfl, fun i hi => by omega⟩
  have E' : fX8_feed_b67 RM 1 (nI k) a b c d e lpF h (nI 0) = some (nI (m + k), up z 1 16 (nI (m + k))) := E
  exact ⟨up z 1 16 (nI (m + k)), by rw [l0, E'], fun q h1 h2 => by rw [up_ne h1, I1 q h2], fun j hj => by rw [up_at, if_neg hj, I1 1 (by decide)], up_same, fun i hi => by rw [up_ne (by decide)]; exact I2 i hi, fun j hj => by rw [up_ne (by decide)]; exact I3 j hj⟩
def extT (tp : List Int32) (f : Nat → Int32) : Nat → List Int32
  | 0 => tp
  | k + 1 => extT tp f k ++ [f k]
theorem extT_len {tp : List Int32} {f : Nat → Int32} : ∀ k, (extT tp f k).length = tp.length + k
  | 0 => rfl
  | k + 1 => by
    unfold extT
    rw [List.length_append, extT_len k]
    rfl
theorem extT_get {tp : List Int32} {f : Nat → Int32} {r : Nat → Int32} (h : ∀ i y, tp[i]? = some y → r i = y) : ∀ k, (∀ j, j < k → r (tp.length + j) = f j) → ∀ i y, (extT tp f k)[i]? = some y → r i = y
  | 0, _, i, y, hi => h i y hi
  | k + 1, hr, i, y, hi => by
    rcases app_get hi with ⟨k1, k2⟩ | ⟨k1, k2⟩
    · exact extT_get h k (fun j hj => hr j (by omega)) i y k2
    · rw [extT_len] at k1
      rw [k1, k2]
      exact hr k (by omega)
theorem le_n {a b : Nat} (ha : a < 2 ^ 31) (hb : b < 2 ^ 31) {c : Int32} (hc : c = nI b) : nI a ≤ c ↔ a ≤ b := by rw [hc]; exact nI_leI ha hb
theorem feed_tail {h : HH} {tp : List Int32} {k : Nat} (a b c d e : Int32) (h1 : 1 ≤ k) (h5 : k ≤ 5) (ht : tpA h tp) (hl : tp.length + k ≤ 40) : ∃ h', ((fX4_append h RA 101 a).bind (fun h73 => if nI k ≤ 1 then (fX7_feed_b89 RA 1 (nI k) a b c d e h73) else ((fX4_append h73 RA 101 b).bind (fun h86 => fX7_feed_b89 RA 1 (nI k) a b c d e h86)))) = some (nI (tp.length + k), h') ∧ tpA h' (extT tp (fdl a b c d e) k) ∧ ∀ q, q ≠ 101 → q ≠ 102 → h' q = h q := by
  have y1 : nI k ≤ 1 ↔ k ≤ 1 := le_n (by omega) (by decide : 1 < 2 ^ 31) rfl
  have y2 : nI k ≤ 2 ↔ k ≤ 2 := le_n (by omega) (by decide : 2 < 2 ^ 31) rfl
  have y3 : nI k ≤ 3 ↔ k ≤ 3 := le_n (by omega) (by decide : 3 < 2 ^ 31) rfl
  have y4 : nI k ≤ 4 ↔ k ≤ 4 := le_n (by omega) (by decide : 4 < 2 ^ 31) rfl
  obtain ⟨z1, e1, t1, f1⟩ := append_a a ht (by omega)
  rw [e1, Option.bind_some]
  have l1 : (tp ++ [a]).length = tp.length + 1 := by simp
  have fin : ∀ (z : HH) (n : Nat), tpA z (extT tp (fdl a b c d e) n) → some (z (RA 1 4) 1, z) = some (nI (tp.length + n), z) := by
    intro z n hz
    rw [A_14, hz.1, extT_len]
  by_cases g1 : k ≤ 1
  · have : k = 1 := by omega
    subst this
    refine ⟨z1, ?_, t1, f1⟩
    rw [if_pos (y1.mpr (by omega)), fX7_feed_b89, if_pos (y2.mpr (by omega)), fX7_feed_b103, if_pos (y3.mpr (by omega)), fX7_feed_b117, if_pos (y4.mpr (by omega))]
    exact fin z1 1 t1
  · obtain ⟨z2, e2, t2, f2⟩ := append_a b t1 (by omega)
    have l2 : (tp ++ [a] ++ [b]).length = tp.length + 2 := by simp
    rw [if_neg (fun z => g1 (y1.mp z)), e2, Option.bind_some, fX7_feed_b89, A_14]
    by_cases g2 : k ≤ 2
    · have : k = 2 := by omega
      subst this
      refine ⟨z2, ?_, t2, fun q k1 k2 => (f2 q k1 k2).trans (f1 q k1 k2)⟩
      rw [if_pos (y2.mpr (by omega)), fX7_feed_b103, if_pos (y3.mpr (by omega)), fX7_feed_b117, if_pos (y4.mpr (by omega))]
      exact fin z2 2 t2
    · obtain ⟨z3, e3, t3, f3⟩ := append_a c t2 (by omega)
      have l3 : (tp ++ [a] ++ [b] ++ [c]).length = tp.length + 3 := by simp
      rw [if_neg (fun z => g2 (y2.mp z)), e3, Option.bind_some, fX7_feed_b103, A_14]
      by_cases g3 : k ≤ 3
      · have : k = 3 := by omega
        subst this
        refine ⟨z3, ?_, t3, fun q k1 k2 => (f3 q k1 k2).trans ((f2 q k1 k2).trans (f1 q k1 k2))⟩
        rw [if_pos (y3.mpr (by omega)), fX7_feed_b117, if_pos (y4.mpr (by omega))]
        exact fin z3 3 t3
      · obtain ⟨z4, e4, t4, f4⟩ := append_a d t3 (by omega)
        have l4 : (tp ++ [a] ++ [b] ++ [c] ++ [d]).length = tp.length + 4 := by simp
        rw [if_neg (fun z => g3 (y3.mp z)), e4, Option.bind_some, fX7_feed_b117, A_14]
        by_cases g4 : k ≤ 4
        · have : k = 4 := by omega
          subst this
          refine ⟨z4, ?_, t4, fun q k1 k2 => (f4 q k1 k2).trans ((f3 q k1 k2).trans ((f2 q k1 k2).trans (f1 q k1 k2)))⟩
          rw [if_pos (y4.mpr (by omega))]
          exact fin z4 4 t4
        · obtain ⟨z5, e5, t5, f5⟩ := append_a e t4 (by omega)
          have : k = 5 := by omega
          subst this
          refine ⟨z5, ?_, t5, fun q k1 k2 => (f5 q k1 k2).trans ((f4 q k1 k2).trans ((f3 q k1 k2).trans ((f2 q k1 k2).trans (f1 q k1 k2))))⟩
          rw [if_neg (fun z => g4 (y4.mp z)), e5, Option.bind_some]
          exact fin z5 5 t5
theorem s_feed : S_feed Inv := by
  rintro hA hM I0 k a b c d e
  have I1 := I0
  obtain ⟨x, K, tp, S, i1, i2, i3, i4, i5, i6, i7⟩ := I0
  obtain ⟨m1, m2, m3, m4, m5⟩ := i7
  obtain ⟨p1, p2, p3, p4, p5, p6⟩ := i6
  unfold fX7_feed fX8_feed
  rw [in_m]
  simp only [isByte_a, isByte_m, Option.bind_some, b2i_if, b2i_ifn]
  by_cases g1 : k < 1
  · exact ⟨-2, hA, hM, by rw [if_pos g1], by rw [ifF (by simp [g1])], I1⟩
  by_cases g2 : 5 < k
  · exact ⟨-2, hA, hM, by rw [if_neg g1, if_pos g2], by rw [ifF (by simp [g2])], I1⟩
  rw [if_neg g1, if_neg g2, ifT (p := !(decide (k < 1)) && !(decide (5 < k))) (by simp [g1, g2])]
  cases ha : byB a with
  | false => exact ⟨-2, hA, hM, rfl, rfl, I1⟩
  | true =>
  cases hb : byB b with
  | false => exact ⟨-2, hA, hM, rfl, rfl, I1⟩
  | true =>
  cases hc : byB c with
  | false => exact ⟨-2, hA, hM, rfl, rfl, I1⟩
  | true =>
  cases hd : byB d with
  | false => exact ⟨-2, hA, hM, rfl, rfl, I1⟩
  | true =>
  cases he : byB e with
  | false => exact ⟨-2, hA, hM, rfl, rfl, I1⟩
  | true =>
  simp only [if_true]
  have g0 : ¬ k < 0 := by
    intro z
    apply g1
    rw [Int32.lt_iff_toInt_lt] at z ⊢
    have e0 : (0 : Int32).toInt = 0 := by decide
    have e1 : (1 : Int32).toInt = 1 := by decide
    omega
  obtain ⟨n, hn, rfl⟩ := nI_of g0
  have n1 : 1 ≤ n := by
    have := mt (nI_ltI hn (by decide : 1 < 2 ^ 31)).mpr g1
    omega
  have n5 : n ≤ 5 := by
    have := mt (nI_ltI (by decide : 5 < 2 ^ 31) hn).mpr g2
    omega
  rw [A_14, p4, m3, nI_add]
  by_cases g3 : tp.length + n ≤ 40
  · have g4 : nI (tp.length + n) ≤ 40 := by rw [l40]; exact nI_le g3 n40
    rw [if_pos g4, if_pos g4]
    obtain ⟨h1, e1, t1, f1⟩ := feed_tail (h := hA) (tp := tp) a b c d e n1 n5 ⟨p4, p5⟩ g3
    obtain ⟨h2, e2, q1, q2, q3, q4, q5⟩ := feed_loop (h := hM) (m := tp.length) (k := n) a b c d e n5 g3 m3
    have nb : ∀ y : Int32, byB y = true → ¬ y = -1 := by
      intro y hy z
      subst z
      revert hy
      decide
    have nbx : ∀ (i : Nat) (y : Int32), (extT tp (fdl a b c d e) n)[i]? = some y → ¬ y = -1 := fun i y hi => by
      have hg := extT_get (r := h2 29) (fun i y hi => by rw [q4 i (List.getElem?_eq_some_iff.mp hi).1]; exact m4 i y hi) n q5 i y hi
      by_cases el : i < tp.length
      · rw [q4 i el, m4 i _ (List.getElem?_eq_getElem el)] at hg
        rw [← hg]
        exact p3.2 i _ (List.getElem?_eq_getElem el)
      · have hl := (List.getElem?_eq_some_iff.mp hi).1
        rw [extT_len] at hl
        have := q5 (i - tp.length) (by omega)
        rw [show tp.length + (i - tp.length) = i by omega] at this
        rw [← hg, this]
        unfold fdl
        split
        · exact nb _ ha
        · split
          · exact nb _ hb
          · split
            · exact nb _ hc
            · split
              · exact nb _ hd
              · exact nb _ he
    rw [e1, e2]
    refine ⟨_, h1, h2, rfl, rfl, x, K, extT tp (fdl a b c d e) n, S, i1, i2, i3, wA_eq (fun q k1 k2 => f1 q (by omega) (by omega)) i4, ?_, ⟨by rw [f1 1 (by decide) (by decide)]; exact p1, fun y hy => wA_eq (fun q k1 k2 => f1 q (by omega) (by omega)) (p2 y hy), ⟨by rw [extT_len]; exact g3, nbx⟩, t1.1, t1.2, fun i hi => shA_eq (f1 _ (by omega) (by omega)) (f1 _ (by omega) (by omega)) (p6 i hi)⟩, ⟨by rw [q2 43 (by decide)]; exact m1, fun y hy => imM_eq (fun q hq => q1 q (by omega) (by omega)) (m2 y hy), by rw [extT_len]; exact q3, extT_get (fun i y hi => by rw [q4 i (List.getElem?_eq_some_iff.mp hi).1]; exact m4 i y hi) n q5, fun i hi => shM_eq (q1 _ (by omega) (by omega)) (q1 _ (by omega) (by omega)) (q1 _ (by omega) (by omega)) (m5 i hi)⟩⟩
    obtain ⟨n', F, V, P, pr, c0, c1, c2⟩ := x
    obtain ⟨d1, d2, d3, d4, d5, d6, d7, r1, r2, r3, r4, r5⟩ := i5
    exact ⟨d1, by rw [q2 0 (by decide)]; exact d2, fun t ht => by rw [q1 2 (by decide) (by decide)]; exact d3 t ht, fun s hs => (avM_eq (q1 _ (by omega) (by omega)) (q1 _ (by omega) (by omega)) (q1 _ (by omega) (by omega)) (q1 _ (by omega) (by omega))).trans (d4 s hs), d5, by rw [q2 11 (by decide)]; exact d6, fun i y hi => patM_eq (q1 _ (by decide) (by decide)) (q1 _ (by decide) (by decide)) (q1 _ (by omega) (by have := (List.getElem?_eq_some_iff.mp hi).1; omega)) (d7 i y hi), by rw [q2 1 (by decide)]; exact r1, by rw [q2 7 (by decide)]; exact r2, by rw [q2 8 (by decide)]; exact r3, by rw [q2 9 (by decide)]; exact r4, bM_eq (fun q _ _ => q1 q (by omega) (by omega)) r5⟩
  · have g4 : ¬ nI (tp.length + n) ≤ 40 := fun z => g3 (by rw [l40] at z; exact (nI_leI (by omega) n40).mp z)
    rw [if_neg g4, if_neg g4]
    exact ⟨_, hA, hM, rfl, rfl, I1⟩
