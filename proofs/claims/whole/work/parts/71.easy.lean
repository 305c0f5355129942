/-! the first state, and the questions that need little -/
theorem i_2 : ∀ j, j < 9 → hA0 2 j = if j = 7 then -1 else 0 := by decide +kernel
theorem i_3 : ∀ t, t < 30 → hA0 3 t = 0 := by decide +kernel
theorem i_T : ∀ s, s < 3 → ∀ t, t < 30 → hA0 (2 + 6 + 5 * s + 1) t = 0 ∧ hA0 (2 + 6 + 5 * s + 2) t = -1 ∧ hA0 (2 + 6 + 5 * s + 3) t = -1 ∧ hA0 (2 + 6 + 5 * s + 4) t = -1 := by decide +kernel
theorem i_P : ∀ i, i < 6 → hA0 (2 + 21 + 2 * i) 2 = 0 := by decide +kernel
theorem i_1 : hA0 1 3 = 0 ∧ hA0 101 1 = 0 := by decide +kernel
theorem i_S : ∀ i, i < 4 → hA0 (121 + 2 * i) 0 = -1 ∧ hA0 (121 + 2 * i) 1 = 0 := by decide +kernel
theorem j_1 : hM0 1 0 = 0 ∧ hM0 1 1 = 0 ∧ hM0 1 7 = 0 ∧ hM0 1 8 = -1 ∧ hM0 1 9 = 0 ∧ hM0 1 11 = 0 ∧ hM0 1 16 = 0 ∧ hM0 1 43 = 0 := by decide +kernel
theorem j_T : ∀ s, s < 3 → ∀ t, t < 30 → hM0 (4 + s) t = 0 := by decide +kernel
theorem j_S : ∀ i, i < 4 → hM0 85 i = -1 ∧ hM0 86 i = 0 := by decide +kernel
theorem inv_0 : Inv hA0 hM0 := by
  refine ⟨(0, fun _ => false, fun _ _ => none, [], 0, 0, -1, 0), none, [], fun _ => (-1, []), ⟨(fun s _ t ht => by cases ht), Or.inl rfl⟩, (fun y hy => by cases hy), (fun i _ => Or.inl ⟨rfl, rfl⟩), ?_, ?_, ?_, ?_⟩
  · refine ⟨by decide, i_2 0 (by decide), fun t ht => Or.inl (i_3 t ht), fun t ht => absurd ht (by omega), fun s hs => ⟨?_, fun t ht => Or.inl (i_T s hs t ht)⟩, by decide, i_2 4 (by decide), (fun i y hy => by cases hy), fun i hi => Or.inl (i_P i hi), i_2 5 (by decide), i_2 6 (by decide), i_2 7 (by decide), i_2 8 (by decide)⟩
    funext t
    unfold avA
    split
    · rename_i ht
      rw [if_pos (i_T s hs t ht).1]
    · rfl
  · obtain ⟨a0, a1, a7, a8, a9, a11, a16, a43⟩ := j_1
    refine ⟨by decide, a0, fun t ht => absurd ht (by omega), fun s hs => ?_, by decide, a11, (fun i y hy => by cases hy), a1, a7, a8, a9, fun s hs t ht => Or.inl (j_T s hs t ht)⟩
    funext t
    unfold avM
    split
    · rename_i ht
      rw [if_pos (j_T s hs t ht)]
    · rfl
  · exact ⟨i_1.1, (fun y hy => by cases hy), ⟨by decide, (fun i y hy => by cases hy)⟩, i_1.2, (fun i y hy => by cases hy), fun i hi => ⟨Nat.zero_le 40, (i_S i hi).1, (i_S i hi).2, fun j y hy => by cases hy⟩⟩
  · obtain ⟨a0, a1, a7, a8, a9, a11, a16, a43⟩ := j_1
    exact ⟨a43, (fun y hy => by cases hy), a16, (fun i y hy => by cases hy), fun i hi => ⟨Nat.zero_le 40, (j_S i hi).1, (j_S i hi).2, fun j y hy => by cases hy⟩⟩
theorem s_latest : S_latest Inv := by
  rintro hA hM I0 a
  have I1 := I0
  obtain ⟨⟨n, F, V, P, pr, c0, c1, c2⟩, K, tp, S, i1, i2, i3, i4, i5, i6, i7⟩ := I0
  obtain ⟨a1, a2, a3, a4, a5, a6, a7, a8, a9, b1, b2, b3, b4⟩ := i4
  obtain ⟨d1, d2, d3, d4, d5, d6, d7, e1, e2, e3, e4, e5⟩ := i5
  unfold fX7_latest fX8_latest
  rw [A_10, b2, b3, b4, e2, e3, e4, in_m, Option.bind_some, b2i_ifn]
  by_cases h0 : a = 0
  · subst h0; exact ⟨_, rfl, rfl, I1⟩
  · by_cases h1 : a = 1
    · subst h1; exact ⟨_, rfl, rfl, I1⟩
    · by_cases h2 : a = 2
      · subst h2; exact ⟨_, rfl, rfl, I1⟩
      · refine ⟨-2, by rw [if_neg h0, if_neg h1, if_neg h2], ?_, I1⟩
        rw [ifF]
        cases hq : (!(decide (a < 0)) && !(decide (2 < a))) with
        | false => rfl
        | true =>
          exfalso
          simp only [Bool.and_eq_true, Bool.not_eq_true', decide_eq_false_iff_not] at hq
          obtain ⟨j, hj, rfl⟩ := nI_of hq.1
          have hj2 : ¬ 2 < j := mt (n_lt (show (2 : Int32) = nI 2 by decide) (by decide) j hj).mpr hq.2
          have : j = 0 ∨ j = 1 ∨ j = 2 := by omega
          rcases this with rfl | rfl | rfl
          · exact h0 rfl
          · exact h1 rfl
          · exact h2 rfl
def trB (a : Int32) : Bool := !(decide (a < 0)) && !(decide (3 ≤ a))
theorem isTree_a {h : HH} (a : Int32) : fX7_isTree h RA a = some (b2i (trB a)) := by
  unfold fX7_isTree fX7_isTree_b13 trB
  by_cases h1 : a < 0
  · simp [h1, b2i]
  · by_cases h2 : 3 ≤ a <;> simp [h1, h2, b2i]
theorem isPlace_m {h : HH} (a : Int32) : fX8_isPlace h RM a = some (b2i (trB a)) := by
  unfold fX8_isPlace trB
  rw [in_m, Option.bind_some, bz_t (b2i_01 _)]
  congr 4
theorem trB_n {a : Int32} (h : trB a = true) : ∃ s, s < 3 ∧ a = nI s := by
  unfold trB at h
  simp only [Bool.and_eq_true, Bool.not_eq_true', decide_eq_false_iff_not] at h
  obtain ⟨j, hj, rfl⟩ := nI_of h.1
  exact ⟨j, by have := mt (n_le (show (3 : Int32) = nI 3 by decide) (by decide) j hj).mpr h.2; omega, rfl⟩
theorem s_find : S_find Inv := by
  rintro hA hM I0 a f nm
  have I1 := I0
  obtain ⟨⟨n, F, V, P, pr, c0, c1, c2⟩, K, tp, S, i1, i2, i3, i4, i5, i6, i7⟩ := I0
  have hN := allW_N i1.1
  obtain ⟨a1, a2, a3, a4, a5, a6, a7, a8, a9, b1, b2, b3, b4⟩ := i4
  obtain ⟨d1, d2, d3, d4, d5, d6, d7, e1, e2, e3, e4, e5⟩ := i5
  have em : fX8_find hM RM 1 a f nm = if (trB a && plB n f) = true then fX8_find_b23 hM RM 1 a f nm else some (-2) := by
    unfold fX8_find plB
    simp only [isPlace_m, isThing_m d1 d2, Option.bind_some, b2i_if, b2i_ifn]
    cases trB a <;> by_cases g : f = -1 <;> cases thB n f <;> simp [g]
  have ea : fX7_find hA RA 1 a f nm = if (trB a && plB n f) = true then gd (inb a (lnA (RA 2 2))) ((fX5_standing hA RA (RA (RA 2 2) (ix a)) f nm).bind (fun v32 => some (v32))) else some (-2) := by
    unfold fX7_find
    rw [A_10]
    simp only [isTree_a, isPlace_a a2, Option.bind_some, b2i_if, b2i_ifn]
    cases trB a <;> cases plB n f <;> rfl
  rw [em, ea]
  cases hq : (trB a && plB n f) with
  | false => exact ⟨_, rfl, rfl, I1⟩
  | true =>
    simp only [Bool.and_eq_true] at hq
    obtain ⟨s, hs, rfl⟩ := trB_n hq.1
    obtain ⟨r1, hT⟩ := isW_T (s := s) isW_2 hs
    obtain ⟨u1, u2⟩ := a5 s hs
    have v1 := d4 s hs
    rw [if_pos rfl, if_pos rfl, isW_2.2.1, isW_2.2.2.2.2.2.2.1, gd_in hs (by decide), ix_n (by omega), r1, standing_n hT, Option.bind_some, u1]
    unfold fX8_find_b23
    rw [found_m hs d1 d2 (by rw [v1]; exact hN s hs), Option.bind_some, v1]
    exact ⟨_, rfl, rfl, I1⟩
theorem count_m {h : HH} {s n : Nat} (hs : s < 3) (hn : n ≤ 30) (h0 : h 1 0 = nI n) (hN : inN n (avM h s)) : fX8_count_b46 h RM 1 (nI s) lpF 0 0 = some (cnt (fun t => isIn (avM h s) t) 30) := by
  have key := loop_fold (L := fX8_count_b46 h RM 1 (nI s)) (e := n) (f := fun i z => if isIn (avM h s) i then z + 1 else z) (g := fun z => some z) (fun m i z hi => by
    rw [fX8_count_b46, h0, if_neg (nI_ge hi (by omega))]
    simp only [fX8_count_b68, M_3, ln_3, gd_in hs (show 3 < 2 ^ 31 by decide), ix_n (show s < 2 ^ 31 by omega), R_3 s hs, L_3 s hs, gd_in (show i < 30 by omega) n30, ix_n (show i < 2 ^ 31 by omega), inM_if (show i < 30 by omega), n_p1]
    cases isIn (avM h s) i <;> rfl) (fun m z => by rw [fX8_count_b46, h0, if_pos (nI_le (Nat.le_refl n) (by omega))])
  have k2 := key lpF 0 0 (by omega) (by rw [lpF_eq]; omega)
  rw [Nat.sub_zero] at k2
  have k3 : cnt (fun t => isIn (avM h s) t) 30 = cnt (fun t => isIn (avM h s) t) n := by
    rw [show (30 : Nat) = n + (30 - n) by omega]
    exact cnt_more (fun j h1 h2 => by
      cases e : isIn (avM h s) j with
      | false => rfl
      | true => have := hN j e; omega)
  rw [k3]
  exact k2
theorem s_count : S_count Inv := by
  rintro hA hM I0 a
  have I1 := I0
  obtain ⟨⟨n, F, V, P, pr, c0, c1, c2⟩, K, tp, S, i1, i2, i3, i4, i5, i6, i7⟩ := I0
  have hN := allW_N i1.1
  obtain ⟨a1, a2, a3, a4, a5, a6, a7, a8, a9, b1, b2, b3, b4⟩ := i4
  obtain ⟨d1, d2, d3, d4, d5, d6, d7, e1, e2, e3, e4, e5⟩ := i5
  have tree : ∀ s, s < 3 → gd (inb (nI s) (lnA (RA 2 2))) ((fX5_size hA RA (RA (RA 2 2) (ix (nI s)))).bind (fun v53 => some (v53))) = some (cnt (fun t => isIn (V s) t) 30) ∧ fX8_count_b46 hM RM 1 (nI s) lpF 0 0 = some (cnt (fun t => isIn (V s) t) 30) := by
    intro s hs
    obtain ⟨r1, hT⟩ := isW_T (s := s) isW_2 hs
    refine ⟨?_, ?_⟩
    · rw [isW_2.2.1, isW_2.2.2.2.2.2.2.1, gd_in hs (by decide), ix_n (by omega), r1, size_n hT, Option.bind_some, (a5 s hs).1]
    · rw [count_m hs d1 d2 (by rw [d4 s hs]; exact hN s hs), d4 s hs]
  have t0 := tree 0 (by decide)
  have t1 := tree 1 (by decide)
  have t2 := tree 2 (by decide)
  unfold fX7_count fX8_count
  rw [A_10, A_14, a2, a7, b1, d2, d6, e1, i6.2.2.2.1, i7.2.2.1]
  by_cases h0 : a = 0
  · rw [if_pos h0, if_pos h0, show a = nI 0 from h0]
    exact ⟨_, t0.1, t0.2, I1⟩
  by_cases h1 : a = 1
  · rw [if_neg h0, if_neg h0, if_pos h1, if_pos h1, show a = nI 1 from h1]
    exact ⟨_, t1.1, t1.2, I1⟩
  by_cases h2 : a = 2
  · rw [if_neg h0, if_neg h0, if_neg h1, if_neg h1, if_pos h2, if_pos h2, show a = nI 2 from h2]
    exact ⟨_, t2.1, t2.2, I1⟩
  simp only [h0, h1, h2, if_false]
  by_cases h3 : a = 3
  · exact ⟨nI n, by rw [if_pos h3], by rw [if_pos h3], I1⟩
  by_cases h4 : a = 4
  · exact ⟨nI P.length, by rw [if_neg h3, if_pos h4], by rw [if_neg h3, if_pos h4], I1⟩
  by_cases h5 : a = 5
  · exact ⟨nI tp.length, by rw [if_neg h3, if_neg h4, if_pos h5], by rw [if_neg h3, if_neg h4, if_pos h5], I1⟩
  by_cases h6 : a = 6
  · exact ⟨pr, by rw [if_neg h3, if_neg h4, if_neg h5, if_pos h6], by rw [if_neg h3, if_neg h4, if_neg h5, if_pos h6], I1⟩
  exact ⟨-2, by rw [if_neg h3, if_neg h4, if_neg h5, if_neg h6], by rw [if_neg h3, if_neg h4, if_neg h5, if_neg h6], I1⟩
theorem reA_2 {h h' : HH} {K : Option WS} {tp : List Int32} {S : Nat → SH} (e : ∀ q, q ≠ 2 → h' q = h q) (a : reA h K tp S) : reA h' K tp S := reA_eq (by rw [e 1 (by decide)]) (fun q hq => e q (by omega)) a
theorem reM_1 {h : HH} {k : Nat} {v : Int32} {K : Option WS} {tp : List Int32} {S : Nat → SH} (h1 : k ≠ 43) (h2 : k ≠ 16) (a : reM h K tp S) : reM (up h 1 k v) K tp S := reM_eq (by rw [up_at, if_neg (fun z => h1 z.symm)]) (by rw [up_at, if_neg (fun z => h2 z.symm)]) (fun q hq => up_ne (by omega)) a
theorem s_prefer : S_prefer Inv := by
  rintro hA hM I0 a
  have I1 := I0
  obtain ⟨⟨n, F, V, P, pr, c0, c1, c2⟩, K, tp, S, i1, i2, i3, i4, i5, i6, i7⟩ := I0
  have i40 := i4
  obtain ⟨a1, a2, a3, a4, a5, a6, a7, a8, a9, b1, b2, b3, b4⟩ := i4
  obtain ⟨d1, d2, d3, d4, d5, d6, d7, e1, e2, e3, e4, e5⟩ := i5
  unfold fX7_prefer fX8_prefer
  rw [isSide_a, isSide_m, A_10, b1, e1, Option.bind_some, Option.bind_some, b2i_ifn, b2i_ifn]
  cases hs : siB a with
  | false => exact ⟨_, hA, hM, rfl, rfl, I1⟩
  | true =>
    obtain ⟨s, h2, rfl⟩ := siB_n hs
    refine ⟨_, _, _, rfl, rfl, (n, F, V, P, nI s, c0, c1, c2), K, tp, S, ⟨i1.1, ?_⟩, i2, i3, ?_, ?_, reA_2 (fun q hq => up_ne hq) i6, reM_1 (by decide) (by decide) i7⟩
    · have : s = 0 ∨ s = 1 := by omega
      rcases this with rfl | rfl
      · exact Or.inl rfl
      · exact Or.inr rfl
    · have k := wA_row (h' := up hA 2 5 (nI s)) (fun q h1 h2 => up_ne (by omega)) (by rw [up_at]; rfl) (by rw [up_at]; rfl) i40
      rw [up_same, show up hA 2 5 (nI s) 2 6 = c0 by rw [up_at]; exact b2, show up hA 2 5 (nI s) 2 7 = c1 by rw [up_at]; exact b3, show up hA 2 5 (nI s) 2 8 = c2 by rw [up_at]; exact b4] at k
      exact k
    · exact ⟨d1, by rw [up_at]; exact d2, fun t ht => by rw [up_ne (by decide)]; exact d3 t ht, fun s' hs' => (avM_eq (up_ne (by omega)) (up_ne (by omega)) (up_ne (by omega)) (up_ne (by omega))).trans (d4 s' hs'), d5, by rw [up_at]; exact d6, fun p y hp => patM_eq (up_ne (by decide)) (up_ne (by decide)) (up_ne (by omega)) (d7 p y hp), up_same, by rw [up_at]; exact e2, by rw [up_at]; exact e3, by rw [up_at]; exact e4, bM_n (by omega) e5⟩
theorem s_drop : S_drop Inv := by
  rintro hA hM I0
  have I1 := I0
  obtain ⟨⟨n, F, V, P, pr, c0, c1, c2⟩, K, tp, S, i1, i2, i3, i4, i5, i6, i7⟩ := I0
  have i40 := i4
  obtain ⟨a1, a2, a3, a4, a5, a6, a7, a8, a9, b1, b2, b3, b4⟩ := i4
  obtain ⟨d1, d2, d3, d4, d5, d6, d7, e1, e2, e3, e4, e5⟩ := i5
  unfold fX7_drop fX8_drop
  rw [A_10, a7, d6]
  by_cases h0 : P.length = 0
  · rw [h0]
    exact ⟨_, hA, hM, rfl, rfl, I1⟩
  · obtain ⟨m, hm⟩ : ∃ m, P.length = m + 1 := ⟨P.length - 1, by omega⟩
    have hl : (P.take m).length = m := by rw [List.length_take]; omega
    have hg : ∀ (i : Nat) (y : PT), (P.take m)[i]? = some y → P[i]? = some y := by
      intro i y hi
      rw [List.getElem?_take] at hi
      split at hi
      · exact hi
      · cases hi
    rw [hm, if_pos (nI_ne0 (by omega) (by omega)), if_pos (nI_ne0 (by omega) (by omega)), nI_pred, lt_eq, lt_eq, up_same, up_same]
    refine ⟨_, _, _, rfl, rfl, (n, F, V, P.take m, pr, c0, c1, c2), K, tp, S, i1, i2, i3, ?_, ?_, reA_2 (fun q hq => up_ne hq) i6, reM_1 (by decide) (by decide) i7⟩
    · have ew : ∀ j, j ≠ 4 → up hA 2 4 (nI m) 2 j = hA 2 j := fun j hj => by rw [up_at, if_neg hj]
      have eq : ∀ q, q ≠ 2 → up hA 2 4 (nI m) q = hA q := fun q hq => up_ne hq
      refine ⟨a1, by rw [ew 0 (by decide)]; exact a2, fun t ht => by rw [eq _ (by omega)]; exact a3 t ht, fun t ht => by rw [eq _ (by omega)]; exact a4 t ht, trs_eq (fun q h1 h2 => eq q (by omega)) a5, by omega, by rw [up_same, hl], pas_eq (fun q h1 h2 => eq q (by omega)) (by omega) (fun i y hi => a8 i y (hg i y hi)), fun i hi => by rw [eq _ (by omega)]; exact a9 i hi, by rw [ew 5 (by decide)]; exact b1, by rw [ew 6 (by decide)]; exact b2, by rw [ew 7 (by decide)]; exact b3, by rw [ew 8 (by decide)]; exact b4⟩
    · exact ⟨d1, by rw [up_at]; exact d2, fun t ht => by rw [up_ne (by decide)]; exact d3 t ht, fun s' hs' => (avM_eq (up_ne (by omega)) (up_ne (by omega)) (up_ne (by omega)) (up_ne (by omega))).trans (d4 s' hs'), by omega, by rw [up_same, hl], fun p y hp => patM_eq (up_ne (by decide)) (up_ne (by decide)) (up_ne (by have := (List.getElem?_eq_some_iff.mp hp).1; omega)) (d7 p y (hg p y hp)), by rw [up_at]; exact e1, by rw [up_at]; exact e2, by rw [up_at]; exact e3, by rw [up_at]; exact e4, bM_n (by omega) e5⟩
