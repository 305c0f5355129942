/-! copy, taken -/
theorem sub_int {a b : Nat} (ha : a ≤ 40) (hb : b < 2 ^ 31) : (nI a - nI b).toInt = (a : Int) - (b : Int) := by
  rw [Int32.toInt_sub, nI_toInt (by omega), nI_toInt hb]
  simp only [Int.bmod]
  split <;> omega
theorem spB_spec {len : Nat} (hl : len ≤ 40) (a c : Int32) : spB len a c = true ↔ ∃ i n : Nat, a = nI i ∧ c = nI n ∧ i + n ≤ len := by
  unfold spB
  simp only [Bool.and_eq_true, Bool.not_eq_true', decide_eq_false_iff_not]
  refine ⟨fun h => ?_, fun h => ?_⟩
  · obtain ⟨⟨⟨h1, h2⟩, h3⟩, h4⟩ := h
    obtain ⟨i, hi, rfl⟩ := nI_of h1
    obtain ⟨n, hn, rfl⟩ := nI_of h2
    refine ⟨i, n, rfl, rfl, ?_⟩
    rw [Int32.lt_iff_toInt_lt, sub_int hl hn, nI_toInt hi] at h4
    omega
  · obtain ⟨i, n, rfl, rfl, h⟩ := h
    refine ⟨⟨⟨nI_pos (by omega), nI_pos (by omega)⟩, nI_nlt (by omega) (by omega)⟩, ?_⟩
    rw [Int32.lt_iff_toInt_lt, sub_int hl (by omega), nI_toInt (by omega)]
    omega
theorem row_get {r : Nat → Int32} {l : List Int32} (h : ∀ i y, l[i]? = some y → r i = y) {i : Nat} (hi : i < l.length) : r i = l.getD i 0 := by
  rw [List.getD_eq_getElem?_getD, List.getElem?_eq_getElem hi]
  exact h i _ (List.getElem?_eq_getElem hi)
theorem cp_ok {a c n : Nat} {x y : Nat} (h1 : a + n ≤ x) (h2 : c + n ≤ y) (hx : x ≤ 40) (hy : y ≤ 40) : cpok (nI a) (nI c) (nI n) 40 40 = true := by
  unfold cpok
  rw [nI_clamp (by omega), nI_clamp (by omega), nI_clamp (by omega)]
  exact decide_eq_true ⟨nI_pos (by omega), nI_pos (by omega), nI_pos (by omega), by omega, by omega⟩
theorem cpH_at {h : HH} {p q a c n j : Nat} : cpH h p q a c n q j = if c ≤ j ∧ j < c + n then h p (a + (j - c)) else h q j := by
  unfold cpH va_cpy
  rw [if_pos rfl]
theorem s_copy : S_copy Inv := by
  rintro hA hM I0 a1 a2 a3 a4 a5
  have I1 := I0
  obtain ⟨x, K, tp, S, i1, i2, i3, i4, i5, i6, i7⟩ := I0
  unfold fX7_copy fX8_copy
  simp only [isSheet_a, isSheet_m, Option.bind_some, b2i_if, b2i_ifn]
  cases hs : shB a1 with
  | false => exact ⟨_, hA, hM, rfl, rfl, I1⟩
  | true =>
  cases hs3 : shB a3 with
  | false => exact ⟨_, hA, hM, rfl, rfl, I1⟩
  | true =>
  obtain ⟨i, hi, rfl⟩ := shB_n hs
  obtain ⟨j, hj, rfl⟩ := shB_n hs3
  obtain ⟨r1, r2, r3⟩ := A_s i hi
  obtain ⟨t1, t2, t3⟩ := A_s j hj
  obtain ⟨s1, s2, s3, s4⟩ := i6.2.2.2.2.2 i hi
  obtain ⟨m1, m2, m3, m4⟩ := i7.2.2.2.2 i hi
  obtain ⟨u1, u2, u3, u4⟩ := i6.2.2.2.2.2 j hj
  obtain ⟨v1, v2, v3, v4⟩ := i7.2.2.2.2 j hj
  have ni := so_neg (i3 i hi)
  have nj := so_neg (i3 j hj)
  have ixi : ix (nI i) = i := ix_n (by omega)
  have ixj : ix (nI j) = j := ix_n (by omega)
  have gi : ∀ {α : Type} (k : Option α), gd (inb (nI i) 4) k = k := fun k => gd_in hi (by decide)
  have gj : ∀ {α : Type} (k : Option α), gd (inb (nI j) 4) k = k := fun k => gd_in hj (by decide)
  simp only [if_true, A_17, A_120, ixi, ixj, gi, gj, r1, t1, isMissing_a, Option.bind_some, b2i_if, b2i_ifn, s2, u2, M_51, M_52, M_53, M_54, ln_85, ln_86, ln_87, ln_92, m2, m3, v2, v3, r2, r3, t2, t3, spans_a s3, spans_a u3, R_87 i hi, R_87 j hj, L_87 i hi, L_87 j hj]
  by_cases ei : (S i).1 = -1
  · rw [if_pos (decide_eq_true ei), if_pos (ni.mpr ei)]
    exact ⟨_, hA, hM, rfl, rfl, I1⟩
  rw [if_neg (fun z => ei (of_decide_eq_true z)), if_neg (fun z => ei (ni.mp z))]
  by_cases ej : (S j).1 = -1
  · rw [if_pos (decide_eq_true ej), if_neg (fun z => (le_neg _).mp z (nj.mpr ej))]
    exact ⟨_, hA, hM, rfl, rfl, I1⟩
  rw [if_neg (fun z => ej (of_decide_eq_true z)), if_pos ((le_neg _).mpr (fun z => ej (nj.mp z)))]
  by_cases eq : ¬ (S i).1 = (S j).1
  · rw [if_neg eq, if_neg eq]
    exact ⟨_, hA, hM, rfl, rfl, I1⟩
  have eq := Classical.not_not.mp eq
  rw [if_pos eq, if_pos eq]
  by_cases ok : spB (S i).2.length a2 a5 = true ∧ spB (S j).2.length a4 a5 = true
  · rw [if_pos ok.1, if_pos ok.2]
    obtain ⟨p, n, rfl, rfl, hp⟩ := (spB_spec s1 _ _).mp ok.1
    obtain ⟨q, n', rfl, e9, hq⟩ := (spB_spec u1 _ _).mp ok.2
    have e9 : n = n' := by
      have b1 : n ≤ 40 := by omega
      have b2 : n' ≤ 40 := by omega
      exact nI_inj (by omega) (by omega) e9
    subst e9
    have c1 : ¬ nI n < 0 := nI_pos (by omega)
    have c2 : ¬ nI p < 0 := nI_pos (by omega)
    have c3 : ¬ nI q < 0 := nI_pos (by omega)
    have c4 : ¬ nI (S i).2.length - nI n < nI p := by
      rw [Int32.lt_iff_toInt_lt, sub_int s1 (by omega), nI_toInt (by omega)]
      omega
    have c5 : nI q ≤ nI (S j).2.length - nI n := by
      rw [Int32.le_iff_toInt_le, sub_int u1 (by omega), nI_toInt (by omega)]
      omega
    have z0 : ix 0 = 0 := by decide
    have k1 : cpok (nI p) 0 (nI n) 40 40 = true := cp_ok (c := 0) (y := 40) hp (by omega) s1 (by omega)
    have k2 : cpok 0 (nI q) (nI n) 40 40 = true := cp_ok (a := 0) (x := 40) (by omega) hq (by omega) u1
    rw [if_neg c1, if_neg c2, if_neg c3, if_neg c4, if_pos c5, gd_t (cp_ok hp hq s1 u1), gd_t k1, lt_eq, lt_eq, gd_t k2, lt_eq, ix_n (show p < 2 ^ 31 by omega), ix_n (show q < 2 ^ 31 by omega), ix_n (show n < 2 ^ 31 by omega), z0]
    refine ⟨_, _, _, rfl, rfl, both_row (hA := hA) (hM := hM) (i := j) (n := (S j).2.length) (f := fun k => if q ≤ k ∧ k < q + n then (S i).2.getD (p + (k - q)) 0 else (S j).2.getD k 0) (so := (S j).1) hj u1 ?_ (fun z k1 k2 => cpH_ne k2) ?_ ?_ (fun k hk => ?_) (fun z hz => ?_) (fun k hk hd => ⟨?_, ?_, ?_⟩) ?_ ?_ (fun k hk => ?_) i1 i2 i3 i4 i5 i6 i7⟩
    · rcases i3 j hj with k | k
      · exact absurd k.1 ej
      · exact k
    · rw [cpH_ne (by omega)]; exact u2
    · rw [cpH_ne (by omega)]; exact u3
    · rw [cpH_at]
      by_cases g : q ≤ k ∧ k < q + n
      · rw [if_pos g]
        simp only [g, and_self, if_true]
        exact row_get s4 (by omega)
      · rw [if_neg g]
        simp only [g, if_false]
        exact row_get u4 hk
    · rw [cpH_ne (by omega), cpH_ne (by omega)]
    · rw [cpH_ne (by omega), cpH_ne (by omega)]
    · rw [cpH_ne (by omega), cpH_ne (by omega)]
    · rw [cpH_ne (by omega), cpH_ne (by omega)]
    · rw [cpH_ne (by omega), cpH_ne (by omega)]; exact v2
    · rw [cpH_ne (by omega), cpH_ne (by omega)]; exact v3
    · rw [cpH_at]
      by_cases g : q ≤ k ∧ k < q + n
      · rw [if_pos g]
        simp only [g, and_self, if_true]
        rw [cpH_at, if_pos (by omega), show p + (0 + (k - q) - 0) = p + (k - q) by omega]
        exact row_get m4 (by omega)
      · rw [if_neg g]
        simp only [g, if_false]
        rw [cpH_ne (by omega)]
        exact row_get v4 hk
  · have ea : (if spB (S i).2.length a2 a5 = true then (if spB (S j).2.length a4 a5 = true then (gd (cpok a2 a4 a5 40 40) (lt (cpH hA (121 + 2 * i + 1) (121 + 2 * j + 1) (ix a2) (ix a4) (ix a5)) (fun h109 => some (a5, h109)))) else (some ((-12), hA))) else (some ((-12), hA))) = some (-12, hA) := by
      by_cases k1 : spB (S i).2.length a2 a5 = true
      · rw [if_pos k1, if_neg (fun z => ok ⟨k1, z⟩)]
      · rw [if_neg k1]
    refine ⟨-12, hA, hM, ea, ?_, I1⟩
    by_cases c1 : a5 < 0
    · rw [if_pos c1]
    rw [if_neg c1]
    by_cases c2 : a2 < 0
    · rw [if_pos c2]
    rw [if_neg c2]
    by_cases c3 : a4 < 0
    · rw [if_pos c3]
    rw [if_neg c3]
    obtain ⟨n, hn, rfl⟩ := nI_of c1
    obtain ⟨p, hp, rfl⟩ := nI_of c2
    obtain ⟨q, hq, rfl⟩ := nI_of c3
    by_cases c4 : nI (S i).2.length - nI n < nI p
    · rw [if_pos c4]
    rw [if_neg c4]
    by_cases c5 : nI q ≤ nI (S j).2.length - nI n
    · exfalso
      apply ok
      rw [Int32.lt_iff_toInt_lt, sub_int s1 hn, nI_toInt hp] at c4
      rw [Int32.le_iff_toInt_le, sub_int u1 hn, nI_toInt hq] at c5
      exact ⟨(spB_spec s1 _ _).mpr ⟨p, n, rfl, rfl, by omega⟩, (spB_spec u1 _ _).mpr ⟨q, n, rfl, rfl, by omega⟩⟩
    · rw [if_neg c5]
theorem suS_to {v : TV} {u : Nat} (hu : u < 30) : ∀ {K : Nat} {x : Int32} {a : Nat}, suS v (nI u) K x = some a → isIn v u = true := by
  intro K
  induction K with
  | zero => intro x a h; cases h
  | succ K ih =>
    intro x a h
    unfold suS at h
    split at h
    · cases h
    · rename_i hx
      obtain ⟨t, ht, rfl⟩ := i30 hx
      rw [ix_n (by omega)] at h
      split at h
      · cases h
      · rename_i f b c e
        split at h
        · rename_i e2
          have := nI_inj (by omega) (by omega) e2
          subst this
          unfold isIn
          rw [e]
          rfl
        · cases z : suS v (nI u) K f with
          | none => rw [z] at h; cases h
          | some b => exact ih z
theorem inS_to {v : TV} {t u : Nat} (hu : u < 30) (h : isIn v u = false) : inS v t (nI u) = false := by
  unfold inS
  cases e : v t with
  | none => rfl
  | some x =>
    obtain ⟨a, b, c⟩ := x
    show (suS v (nI u) 31 a).isSome = false
    cases z : suS v (nI u) 31 a with
    | none => rfl
    | some k => rw [suS_to hu z] at h; cases h
theorem cnt_0 {P : Nat → Bool} {e : Nat} (h : ∀ i, i < e → P i = false) : cnt P e = 0 := by
  induction e with
  | zero => rfl
  | succ e ih =>
    rw [cnt_succ, h e (by omega), ih (fun i hi => h i (by omega))]
    rfl
theorem inners_m {h : HH} {s u n : Nat} {F : Nat → Bool} (hs : s < 3) (hn : n ≤ 30) (hu : u < 30) (h0 : h 1 0 = nI n) (hw : wfT n F (avM h s)) : fX8_inners h RM 1 (nI s) (nI u) = some (cnt (fun t => inS (avM h s) t (nI u)) 30) := by
  have key := loop_fold (L := fun m z y => fX8_inners_b5 h RM 1 (nI s) (nI u) m z y) (e := n) (f := fun i z => if inS (avM h s) i (nI u) then z + 1 else z) (g := fun z => some z) (fun m i z hi => by
    rw [fX8_inners_b5, h0, if_neg (nI_ge hi (by omega)), isInner_m hs (by omega) hu hw, Option.bind_some, b2i_if]
    simp only [fX8_inners_b28, n_p1]
    cases inS (avM h s) i (nI u) <;> rfl) (fun m z => by rw [fX8_inners_b5, h0, if_pos (nI_le (Nat.le_refl n) (by omega))])
  have k2 := key lpF 0 0 (by omega) (by rw [lpF_eq]; omega)
  rw [Nat.sub_zero] at k2
  have k3 : cnt (fun t => inS (avM h s) t (nI u)) 30 = cnt (fun t => inS (avM h s) t (nI u)) n := by
    rw [show (30 : Nat) = n + (30 - n) by omega]
    exact cnt_more (fun j h1 h2 => inS_out (fun t ht => (hw t ht).1) _ h1)
  rw [k3]
  exact k2
theorem s_taken : S_taken Inv := by
  rintro hA hM I0 a b
  have I1 := I0
  obtain ⟨⟨n, F, V, P, pr, c0, c1, c2⟩, K, tp, S, i1, i2, i3, i4, i5, i6, i7⟩ := I0
  have hN := allW_N i1.1
  obtain ⟨a1, a2, a3, a4, a5, a6, a7, a8, a9, b1, b2, b3, b4⟩ := i4
  obtain ⟨d1, d2, d3, d4, d5, d6, d7, e1, e2, e3, e4⟩ := i5
  unfold fX7_taken fX8_taken
  rw [A_10, isThing_a a2, isThing_m d1 d2, in_m]
  simp only [Option.bind_some, b2i_if, b2i_ifn]
  cases hp : thB n a with
  | false => exact ⟨_, rfl, rfl, I1⟩
  | true =>
  obtain ⟨k, hk, rfl⟩ := thB_n a1 hp
  rw [if_pos rfl, if_pos rfl]
  by_cases g1 : b < 0
  · exact ⟨-2, by rw [if_pos g1], by rw [ifF (by simp [g1])], I1⟩
  obtain ⟨m, hm, rfl⟩ := nI_of g1
  by_cases g2 : ¬ m ≤ 2
  · have g3 : ¬ nI m ≤ 2 := fun z => g2 ((nI_leI hm (by decide : 2 < 2 ^ 31)).mp z)
    have g4 : (2 : Int32) < nI m := (n_lt (show (2 : Int32) = nI 2 by decide) (by decide) m hm).mpr (by omega)
    exact ⟨-2, by rw [if_neg g1, if_neg g3], by rw [ifF (by simp [g4])], I1⟩
  have g2 := Classical.not_not.mp g2
  have g3 : nI m ≤ 2 := nI_le g2 (by decide : 2 < 2 ^ 31)
  have g4 : ¬ (2 : Int32) < nI m := fun z => by have := (n_lt (show (2 : Int32) = nI 2 by decide) (by decide) m hm).mp z; omega
  obtain ⟨t1, hT⟩ := isW_T (s := 0) isW_2 (by decide)
  have z0 : ix 0 = 0 := by decide
  have y0 : inb 0 3 = true := by decide
  rw [if_neg g1, if_pos g3, ifT (by simp [g1, g4]), isW_2.1, isW_2.2.2.2.2.2.1, gd_in (show k < 30 by omega) n30, ix_n (show k < 2 ^ 31 by omega), lt_eq, a4 k hk, M_2, ln_2, gd_in (show k < 30 by omega) n30, gd_in (show k < 30 by omega) n30, d3 k hk]
  have cm : m = 0 ∨ m = 1 ∨ m = 2 := by omega
  rcases cm with rfl | rfl | rfl
  · rw [if_neg (show ¬ ¬ nI 0 = 0 from fun z => z rfl), if_neg (show ¬ ¬ nI 0 = 0 from fun z => z rfl)]
    cases F k <;> exact ⟨_, rfl, rfl, I1⟩
  · rw [if_pos (show ¬ nI 1 = 0 by decide), if_pos (show ¬ nI 1 = 2 by decide), if_pos (show ¬ nI 1 = 0 by decide), if_neg (show ¬ ¬ nI 1 = 1 from fun z => z rfl)]
    cases F k <;> exact ⟨_, rfl, rfl, I1⟩
  · rw [if_pos (show ¬ nI 2 = 0 by decide), if_neg (show ¬ ¬ nI 2 = 2 from fun z => z rfl), if_pos (show ¬ nI 2 = 0 by decide), if_pos (show ¬ nI 2 = 1 by decide)]
    have w0 : wfT n F (V 0) := i1.1 0 (by decide)
    rw [isW_2.2.1, isW_2.2.2.2.2.2.2.1, gd_t y0, z0, t1, innerOnes_n hT, (a5 0 (by decide)).1, Option.bind_some, M_3, ln_3, gd_t y0, R_3 0 (by decide), L_3 0 (by decide), gd_in (show k < 30 by omega) n30, inM_if (show k < 30 by omega), d4 0 (by decide), show (0 : Int32) = nI 0 from rfl, inners_m (by decide) d1 (by omega) d2 (by rw [d4 0 (by decide)]; exact w0), Option.bind_some, d4 0 (by decide)]
    cases hin : isIn (V 0) k with
    | false =>
      rw [ifF rfl, cnt_0 (fun i _ => inS_to (by omega) hin), if_pos (by decide)]
      exact ⟨_, rfl, rfl, I1⟩
    | true =>
      rw [if_pos rfl]
      by_cases g : cnt (fun t => inS (V 0) t (nI k)) 30 ≤ nI 0
      · rw [if_pos g, if_pos g]
        exact ⟨_, rfl, rfl, I1⟩
      · rw [if_neg g, if_neg g]
        exact ⟨_, rfl, rfl, I1⟩
