/-! cell, copy, film -/
theorem thB_g {n : Nat} (hn : n < 2 ^ 31) (a : Int32) : (!(decide (a < 0)) && !(decide (nI n - 1 < a))) = thB n a := by
  unfold thB
  by_cases h : a < 0
  · simp [h]
  · congr 2
    refine decide_eq_decide.mpr ?_
    cases n with
    | zero =>
      obtain ⟨j, hj, rfl⟩ := nI_of h
      have e1 : nI 0 - 1 = -1 := by decide
      have e2 : (-1 : Int32).toInt = -1 := by decide
      rw [e1]
      exact ⟨fun _ => nI_le (Nat.zero_le _) hj, fun _ => by rw [Int32.lt_iff_toInt_lt, nI_toInt hj]; omega⟩
    | succ m =>
      rw [nI_pred]
      refine lt_succ ?_
      rw [nI_toInt hn, nI_toInt (show m < 2 ^ 31 by omega)]
      omega
def spB (len : Nat) (a c : Int32) : Bool := !(decide (a < 0)) && !(decide (c < 0)) && !(decide (nI len < c)) && !(decide (nI len - c < a))
theorem spans_a {h : HH} {p len : Nat} (hl : h p 1 = nI len) (a c : Int32) : fX3_spans h RA p a c = some (b2i (spB len a c)) := by
  unfold fX3_spans fX3_spans_b30 spB
  rw [hl]
  by_cases h1 : a < 0
  · simp [h1, b2i]
  · by_cases h2 : c < 0
    · simp [h1, h2, b2i]
    · by_cases h3 : nI len < c
      · simp [h1, h2, h3, b2i]
      · by_cases h4 : nI len - c < a <;> simp [h1, h2, h3, h4, b2i]
theorem spB_1 {len : Nat} (hl : len ≤ 40) (a : Int32) : spB len a 1 = thB len a := by
  rw [← thB_g (show len < 2 ^ 31 by omega)]
  unfold spB
  have c0 : ¬ (1 : Int32) < 0 := by decide
  cases len with
  | zero =>
    have e : nI 0 < 1 := by decide
    have e1 : nI 0 - 1 = -1 := by decide
    by_cases h : a < 0
    · simp [h]
    · obtain ⟨j, hj, rfl⟩ := nI_of h
      have e3 : (-1 : Int32) < nI j := by
        have e2 : (-1 : Int32).toInt = -1 := by decide
        rw [Int32.lt_iff_toInt_lt, nI_toInt hj]
        omega
      rw [e1]
      simp [e, e3]
  | succ m =>
    have e : ¬ nI (m + 1) < 1 := by
      rw [l1]
      exact nI_nlt (by omega) (by omega)
    simp [c0, e]
theorem isMissing_a {h : HH} {p : Nat} : fX3_isMissing h RA p = some (b2i (decide (h p 0 = -1))) := by
  unfold fX3_isMissing
  by_cases e : h p 0 = -1 <;> simp [e, b2i]
theorem so_neg {x : SH} (h : x.1 = -1 ∧ x.2 = [] ∨ x.1 = 0 ∨ x.1 = 1) : x.1 < 0 ↔ x.1 = -1 := by
  rcases h with h | h | h
  · rw [h.1]; decide
  · rw [h]; decide
  · rw [h]; decide
theorem le_neg (a : Int32) : (0 : Int32) ≤ a ↔ ¬ a < 0 := by
  rw [Int32.le_iff_toInt_le, Int32.lt_iff_toInt_lt]
  omega
theorem soS_up {S : Nat → SH} {i : Nat} {l : List Int32} (hi : i < 4) (h : soS S) (ne : ¬ (S i).1 = -1) : soS (upS S i ((S i).1, l)) := by
  intro j hj
  unfold upS
  by_cases d : j = i
  · rw [if_pos d]
    rcases h i hi with k | k
    · exact absurd k.1 ne
    · exact Or.inr k
  · rw [if_neg d]; exact h j hj
theorem set_get {l : List Int32} {j k : Nat} {v y : Int32} (h : (l.set j v)[k]? = some y) : k < l.length ∧ (k = j ∧ y = v ∨ k ≠ j ∧ l[k]? = some y) := by
  have hk : k < l.length := by
    have := (List.getElem?_eq_some_iff.mp h).1
    simpa using this
  refine ⟨hk, ?_⟩
  rw [List.getElem?_set] at h
  by_cases e : j = k
  · subst e
    rw [if_pos rfl, if_pos hk] at h
    exact Or.inl ⟨rfl, (Option.some.inj h).symm⟩
  · rw [if_neg e] at h
    exact Or.inr ⟨fun z => e z.symm, h⟩
/-- one item on both sides -/
theorem both_item {hA hM : HH} {x : WS} {K : Option WS} {tp : List Int32} {S : Nat → SH} {i j : Nat} {v : Int32} (hi : i < 4) (ne : ¬ (S i).1 = -1) (i1 : wfS x) (i2 : ∀ y, K = some y → wfS y) (i3 : soS S) (i4 : wA hA 2 x) (i5 : wM hM x) (i6 : reA hA K tp S) (i7 : reM hM K tp S) : Inv (up hA (121 + 2 * i + 1) j v) (up hM (88 + i) j v) := by
  obtain ⟨s1, s2, s3, s4⟩ := i6.2.2.2.2.2 i hi
  obtain ⟨m1, m2, m3, m4⟩ := i7.2.2.2.2 i hi
  refine ⟨x, K, tp, upS S i ((S i).1, (S i).2.set j v), i1, i2, soS_up hi i3 ne, wA_eq (fun q k1 k2 => up_ne (by omega)) i4, wM_lo (fun q hq => up_ne (by omega)) i5, reA_S hi (fun q k1 k2 => up_ne k2) ⟨by simpa using s1, by rw [up_ne (by omega)]; exact s2, by rw [up_ne (by omega)]; simpa using s3, fun k y hk => ?_⟩ i6, reM_S (fun q hq => up_ne (by omega)) (fun k hk hd => ⟨by rw [up_ne (by omega)], by rw [up_ne (by omega)], by rw [up_ne (by omega)]⟩) ⟨by simpa using m1, by rw [up_ne (by omega)]; exact m2, by rw [up_ne (by omega)]; simpa using m3, fun k y hk => ?_⟩ i7⟩
  · obtain ⟨k1, k2⟩ := set_get hk
    rw [up_at]
    rcases k2 with ⟨e1, e2⟩ | ⟨e1, e2⟩
    · rw [if_pos e1, e2]
    · rw [if_neg e1]; exact s4 k y e2
  · obtain ⟨k1, k2⟩ := set_get hk
    rw [up_at]
    rcases k2 with ⟨e1, e2⟩ | ⟨e1, e2⟩
    · rw [if_pos e1, e2]
    · rw [if_neg e1]; exact m4 k y e2
theorem thB_n40 {n : Nat} (hn : n ≤ 40) {a : Int32} (h : thB n a = true) : ∃ t, t < n ∧ a = nI t := by
  unfold thB at h
  simp only [Bool.and_eq_true, Bool.not_eq_true', decide_eq_false_iff_not] at h
  obtain ⟨j, hj, rfl⟩ := nI_of h.1
  exact ⟨j, by have := mt (nI_leI (show n < 2 ^ 31 by omega) hj).mpr h.2; omega, rfl⟩
theorem s_cell : S_cell Inv := by
  rintro hA hM I0 a b v
  have I1 := I0
  obtain ⟨x, K, tp, S, i1, i2, i3, i4, i5, i6, i7⟩ := I0
  unfold fX7_cell fX8_cell
  rw [isSheet_a, isSheet_m, Option.bind_some, Option.bind_some, b2i_ifn, b2i_ifn]
  cases hs : shB a with
  | false => exact ⟨_, hA, hM, rfl, rfl, I1⟩
  | true =>
  obtain ⟨i, hi, rfl⟩ := shB_n hs
  obtain ⟨r1, r2, r3⟩ := A_s i hi
  obtain ⟨s1, s2, s3, s4⟩ := i6.2.2.2.2.2 i hi
  obtain ⟨m1, m2, m3, m4⟩ := i7.2.2.2.2 i hi
  rw [if_pos rfl, if_pos rfl, A_17, A_120, gd_in hi (by decide), ix_n (show i < 2 ^ 31 by omega), r1, isMissing_a, Option.bind_some, b2i_if, s2, M_51, M_52, M_53, ln_85, ln_86, ln_87, gd_in hi (by decide), m2, m3]
  by_cases ne : (S i).1 = -1
  · rw [if_pos (decide_eq_true ne), if_neg (by rw [ne]; decide)]
    exact ⟨_, hA, hM, rfl, rfl, I1⟩
  · rw [if_neg (fun z => ne (of_decide_eq_true z)), if_pos ((le_neg _).mpr (fun z => ne ((so_neg (i3 i hi)).mp z))), gd_in hi (by decide), spans_a s3, spB_1 s1, Option.bind_some, b2i_ifn, in_m, thB_g (by omega), Option.bind_some, b2i_ifn]
    cases hb : thB (S i).2.length b with
    | false => exact ⟨_, hA, hM, rfl, rfl, I1⟩
    | true =>
      obtain ⟨j, hj, rfl⟩ := thB_n40 s1 hb
      rw [if_pos rfl, if_pos rfl, gd_in hi (by decide), gd_in hi (by decide)]
      unfold fX3_put
      rw [spans_a s3, spB_1 s1, Option.bind_some, b2i_if, hb, if_pos rfl, s2, r2]
      by_cases g : (S i).1 = 0
      · rw [if_neg (fun z => z g), if_neg (fun z => z g)]
        unfold fX3_put_b27 fX8_cell_b63
        rw [r3, R_87 i hi, L_87 i hi, gd_in (show j < 40 by omega) n40, gd_in (show j < 40 by omega) n40, lt_eq, lt_eq, ix_n (show j < 2 ^ 31 by omega), Option.bind_some]
        exact ⟨_, _, _, rfl, rfl, both_item hi ne i1 i2 i3 i4 i5 i6 i7⟩
      · rw [if_pos g, if_pos g]
        unfold fX3_put_b27 fX8_cell_b63
        rw [r3, R_87 i hi, L_87 i hi, gd_in (show j < 40 by omega) n40, gd_in (show j < 40 by omega) n40, lt_eq, lt_eq, ix_n (show j < 2 ^ 31 by omega), Option.bind_some]
        exact ⟨_, _, _, rfl, rfl, both_item hi ne i1 i2 i3 i4 i5 i6 i7⟩
theorem rng_get {n k : Nat} {f : Nat → Int32} {y : Int32} (h : ((List.range n).map f)[k]? = some y) : k < n ∧ y = f k := by
  have hk : k < n := by
    have := (List.getElem?_eq_some_iff.mp h).1
    simpa using this
  refine ⟨hk, ?_⟩
  rw [List.getElem?_map, List.getElem?_range hk] at h
  exact (Option.some.inj h).symm
/-- a row of items on both sides -/
theorem both_row {hA hM hA' hM' : HH} {x : WS} {K : Option WS} {tp : List Int32} {S : Nat → SH} {i n : Nat} {f : Nat → Int32} {so : Int32} (hi : i < 4) (hn : n ≤ 40) (hso : so = 0 ∨ so = 1) (e1 : ∀ q, q ≠ 121 + 2 * i → q ≠ 121 + 2 * i + 1 → hA' q = hA q) (e2 : hA' (121 + 2 * i) 0 = so) (e3 : hA' (121 + 2 * i) 1 = nI n) (e4 : ∀ k, k < n → hA' (121 + 2 * i + 1) k = f k) (g1 : ∀ q, q < 85 → hM' q = hM q) (g2 : ∀ j, j < 4 → j ≠ i → hM' 85 j = hM 85 j ∧ hM' 86 j = hM 86 j ∧ hM' (88 + j) = hM (88 + j)) (g3 : hM' 85 i = so) (g4 : hM' 86 i = nI n) (g5 : ∀ k, k < n → hM' (88 + i) k = f k) (i1 : wfS x) (i2 : ∀ y, K = some y → wfS y) (i3 : soS S) (i4 : wA hA 2 x) (i5 : wM hM x) (i6 : reA hA K tp S) (i7 : reM hM K tp S) : Inv hA' hM' := by
  have hl : ((List.range n).map f).length = n := by simp
  refine ⟨x, K, tp, upS S i (so, (List.range n).map f), i1, i2, ?_, wA_eq (fun q k1 k2 => e1 q (by omega) (by omega)) i4, wM_lo (fun q hq => g1 q (by omega)) i5, reA_S hi e1 ⟨by rw [hl]; exact hn, e2, by rw [hl]; exact e3, fun k y hk => ?_⟩ i6, reM_S g1 g2 ⟨by rw [hl]; exact hn, g3, by rw [hl]; exact g4, fun k y hk => ?_⟩ i7⟩
  · intro j hj
    unfold upS
    by_cases d : j = i
    · rw [if_pos d]; exact Or.inr hso
    · rw [if_neg d]; exact i3 j hj
  · obtain ⟨k1, k2⟩ := rng_get hk
    rw [e4 k k1, k2]
  · obtain ⟨k1, k2⟩ := rng_get hk
    rw [g5 k k1, k2]
theorem contentOn_m {h : HH} {s t n : Nat} (hs : s < 3) (ht : t < 30) (hn : n ≤ 30) (h0 : h 1 0 = nI n) (hN : inN n (avM h s)) : fX8_contentOn h RM 1 (nI s) (nI t) = some (vC (avM h s) t) := by
  unfold fX8_contentOn
  rw [isThing_m hn h0, Option.bind_some, b2i_if]
  simp only [fX8_contentOn_b30]
  have no : isIn (avM h s) t = false → vC (avM h s) t = -1 := by
    intro e
    unfold isIn at e
    unfold vC
    cases e2 : avM h s t with
    | none => rfl
    | some y => rw [e2] at e; cases e
  cases hb : thB n (nI t) with
  | false =>
    rw [ifF rfl]
    have : isIn (avM h s) t = false := by
      cases e : isIn (avM h s) t with
      | false => rfl
      | true => rw [thB_of (hN t e) hn] at hb; cases hb
    rw [no this]
  | true =>
    rw [if_pos rfl]
    simp only [M_3, M_6, ln_3, ln_15, gd_in hs (show 3 < 2 ^ 31 by decide), ix_n (show s < 2 ^ 31 by omega), R_3 s hs, R_15 s hs, L_3 s hs, L_15 s hs, gd_in ht n30, ix_n (show t < 2 ^ 31 by omega), inM_if ht]
    cases e : isIn (avM h s) t with
    | false => rw [ifF rfl, no e]
    | true => rw [if_pos rfl, (isInM_row e).2.2.2]
theorem s_film : S_film Inv := by
  rintro hA hM I0 a b c
  have I1 := I0
  obtain ⟨⟨n, F, V, P, pr, c0, c1, c2⟩, K, tp, S, i1, i2, i3, i4, i5, i6, i7⟩ := I0
  have hN := allW_N i1.1
  have i40 := i4
  have i50 := i5
  obtain ⟨a1, a2, a3, a4, a5, a6, a7, a8, a9, b1, b2, b3, b4⟩ := i4
  obtain ⟨d1, d2, d3, d4, d5, d6, d7, e1, e2, e3, e4⟩ := i5
  unfold fX7_film fX8_film
  rw [isSheet_a, isSheet_m, isTree_a, isPlace_m, in_m]
  simp only [Option.bind_some, b2i_if, b2i_ifn]
  cases hs : shB a with
  | false => exact ⟨_, hA, hM, rfl, rfl, I1⟩
  | true =>
  cases ht : trB b with
  | false => exact ⟨_, hA, hM, rfl, rfl, I1⟩
  | true =>
  obtain ⟨i, hi, rfl⟩ := shB_n hs
  obtain ⟨s, h3, rfl⟩ := trB_n ht
  obtain ⟨r1, r2, r3⟩ := A_s i hi
  rw [if_pos rfl, if_pos rfl, if_pos rfl, if_pos rfl]
  by_cases g1 : c < 0
  · exact ⟨_, hA, hM, by rw [if_pos g1], by rw [ifF (by simp [g1])], I1⟩
  obtain ⟨k, hk, rfl⟩ := nI_of g1
  by_cases g2 : ¬ k ≤ 30
  · have g3 : ¬ nI k ≤ 30 := fun z => g2 (by rw [l30] at z; exact (nI_leI hk n30).mp z)
    have g4 : (30 : Int32) < nI k := (n_lt l30 n30 k hk).mpr (by omega)
    exact ⟨_, hA, hM, by rw [if_neg g1, if_neg g3], by rw [ifF (by simp [g4])], I1⟩
  have g2 := Classical.not_not.mp g2
  have g3 : nI k ≤ 30 := by rw [l30]; exact nI_le g2 n30
  have g4 : ¬ (30 : Int32) < nI k := fun z => by have := (n_lt l30 n30 k hk).mp z; omega
  rw [if_neg g1, if_pos g3, ifT (by simp [g1, g4]), A_17, A_120, gd_in hi (by decide), ix_n (show i < 2 ^ 31 by omega), r1]
  obtain ⟨h1, q0, q1, q2, q3, q4⟩ := renew_a (h := hA) hi 1 (nI k)
  rw [q0, Option.bind_some]
  obtain ⟨t1, hT⟩ := isW_T (s := s) isW_2 h3
  have w1 : wA h1 2 (n, F, V, P, pr, c0, c1, c2) := wA_eq (fun q k1 k2 => q4 q (by omega) (by omega)) i40
  have keyA := loop_inv (L := fun m (z : HH) y => fX7_film_b45 RA 1 (nI i) (nI s) (nI k) m z (121 + 2 * i) y) (e := k) (I := fun j z => (∀ q, q ≠ 121 + 2 * i + 1 → z q = h1 q) ∧ ∀ t, t < j → z (121 + 2 * i + 1) t = vC (V s) t) (g := fun z => some (nI k, z)) (fun m j z hj hI => by
    obtain ⟨I1, I2⟩ := hI
    have wz : wA z 2 (n, F, V, P, pr, c0, c1, c2) := wA_eq (fun q k1 k2 => I1 q (by omega)) w1
    obtain ⟨u1, u2⟩ := wz.2.2.2.2.1 s h3
    have cr := (cl_rows u2 (show j < 30 by omega)).2.2.2
    have z1 : z (121 + 2 * i) 1 = nI k := by rw [I1 _ (by omega)]; exact q2
    have z0 : z (121 + 2 * i) 0 = 1 := by rw [I1 _ (by omega)]; exact q1
    refine ⟨up z (121 + 2 * i + 1) j (vC (V s) j), ?_, fun q hq => (up_ne hq).trans (I1 q hq), fun t ht => ?_⟩
    · rw [fX7_film_b45, if_neg (nI_ge hj (by omega)), A_10, isW_2.2.1, isW_2.2.2.2.2.2.2.1, gd_in h3 (by decide), ix_n (show s < 2 ^ 31 by omega), t1, hT.2.2.2.1, hT.2.2.2.2.2.2.2, gd_in (show j < 30 by omega) n30, ix_n (show j < 2 ^ 31 by omega), cr, u1]
      unfold fX3_put
      have hb : thB k (nI j) = true := by
        unfold thB
        simp only [Bool.and_eq_true, Bool.not_eq_true', decide_eq_false_iff_not]
        exact ⟨nI_pos (by omega), nI_ge hj (by omega)⟩
      rw [spans_a z1, spB_1 (by omega), Option.bind_some, b2i_if, hb, if_pos rfl, z0, if_pos (by decide), r2]
      unfold fX3_put_b27
      rw [r3, gd_in (show j < 40 by omega) n40, lt_eq, ix_n (show j < 2 ^ 31 by omega), Option.bind_some, n_p1]
    · rw [up_at]
      by_cases e : t = j
      · rw [if_pos e, e]
      · rw [if_neg e]; exact I2 t (by omega)) (fun m z hI => by rw [fX7_film_b45, if_pos (nI_le (Nat.le_refl k) hk)])
  obtain ⟨h2, ⟨J1, J2⟩, eA⟩ := keyA lpF 0 h1 (by omega) (by rw [lpF_eq]; omega) ⟨fun _ _ => rfl, fun t ht => by omega⟩
  have eA' : fX7_film_b45 RA 1 (nI i) (nI s) (nI k) lpF h1 (121 + 2 * i) 0 = some (nI k, h2) := eA
  rw [eA', M_51, M_52, ln_85, ln_86, gd_in hi (by decide), lt_eq, gd_in hi (by decide), lt_eq]
  have keyM := loop_inv (L := fun m (z : HH) y => fX8_film_b44 RM 1 (nI i) (nI s) (nI k) m z y) (e := k) (I := fun j z => (∀ q, q ≠ 88 + i → z q = up (up hM 85 i 1) 86 i (nI k) q) ∧ ∀ t, t < j → z (88 + i) t = vC (V s) t) (g := fun z => some (nI k, z)) (fun m j z hj hI => by
    obtain ⟨I1, I2⟩ := hI
    have zq : ∀ q, q < 85 → z q = hM q := fun q hq => by rw [I1 q (by omega), up_ne (by omega), up_ne (by omega)]
    have zv : avM z s = V s := (avM_eq (zq _ (by omega)) (zq _ (by omega)) (zq _ (by omega)) (zq _ (by omega))).trans (d4 s h3)
    refine ⟨up z (88 + i) j (vC (V s) j), ?_, fun q hq => (up_ne hq).trans (I1 q hq), fun t ht => ?_⟩
    · rw [fX8_film_b44, if_neg (nI_ge hj (by omega)), M_53, ln_87, gd_in hi (by decide), contentOn_m h3 (by omega) d1 (by rw [zq 1 (by omega)]; exact d2) (by rw [zv]; exact hN s h3), Option.bind_some, zv, ix_n (show i < 2 ^ 31 by omega), R_87 i hi, L_87 i hi, gd_in (show j < 40 by omega) n40, lt_eq, ix_n (show j < 2 ^ 31 by omega), n_p1]
    · rw [up_at]
      by_cases e : t = j
      · rw [if_pos e, e]
      · rw [if_neg e]; exact I2 t (by omega)) (fun m z hI => by rw [fX8_film_b44, if_pos (nI_le (Nat.le_refl k) hk)])
  obtain ⟨h4, ⟨G1, G2⟩, eM⟩ := keyM lpF 0 (up (up hM 85 i 1) 86 i (nI k)) (by omega) (by rw [lpF_eq]; omega) ⟨fun _ _ => rfl, fun t ht => by omega⟩
  have eM' : fX8_film_b44 RM 1 (nI i) (nI s) (nI k) lpF (up (up hM 85 i 1) 86 i (nI k)) 0 = some (nI k, h4) := eM
  rw [eM']
  refine ⟨_, h2, h4, rfl, rfl, both_row (hA := hA) (hM := hM) (n := k) (f := vC (V s)) (so := 1) hi (by omega) (Or.inr rfl) (fun q k1 k2 => (J1 q k2).trans (q4 q k1 k2)) ?_ ?_ J2 (fun q hq => by rw [G1 q (by omega), up_ne (by omega), up_ne (by omega)]) (fun j hj hd => ⟨?_, ?_, ?_⟩) ?_ ?_ G2 i1 i2 i3 i40 i50 i6 i7⟩
  · rw [J1 _ (by omega)]; exact q1
  · rw [J1 _ (by omega)]; exact q2
  · rw [G1 _ (by omega), up_ne (by decide), up_at, if_neg hd]
  · rw [G1 _ (by omega), up_at, if_neg hd, up_ne (by decide)]
  · rw [G1 _ (by omega), up_ne (by omega), up_ne (by omega)]
  · rw [G1 _ (by omega), up_ne (by decide), up_same]
  · rw [G1 _ (by omega), up_same]
