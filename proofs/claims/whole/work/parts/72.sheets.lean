/-! sheets -/
theorem A_s : ∀ i, i < 4 → RA 120 i = 121 + 2 * i ∧ RA (121 + 2 * i) 2 = 121 + 2 * i + 1 ∧ lnA (121 + 2 * i + 1) = 40 := by decide +kernel
theorem A_120 : lnA 120 = 4 := by decide +kernel
def upS (S : Nat → SH) (i : Nat) (y : SH) : Nat → SH := fun j => if j = i then y else S j
theorem reA_S {h h' : HH} {K : Option WS} {tp : List Int32} {S : Nat → SH} {i : Nat} {y : SH} (hi : i < 4) (e : ∀ q, q ≠ 121 + 2 * i → q ≠ 121 + 2 * i + 1 → h' q = h q) (hy : shA h' (121 + 2 * i) y) (a : reA h K tp S) : reA h' K tp (upS S i y) := by
  obtain ⟨a1, a2, a3, a4, a5, a6⟩ := a
  refine ⟨by rw [e 1 (by omega) (by omega)]; exact a1, fun z hz => wA_eq (fun q h1 h2 => e q (by omega) (by omega)) (a2 z hz), a3, by rw [e 101 (by omega) (by omega)]; exact a4, fun j z hj => by rw [e 102 (by omega) (by omega)]; exact a5 j z hj, fun j hj => ?_⟩
  unfold upS
  by_cases d : j = i
  · subst d
    rw [if_pos rfl]
    exact hy
  · rw [if_neg d]
    exact shA_eq (e _ (by omega) (by omega)) (e _ (by omega) (by omega)) (a6 j hj)
theorem reM_S {h h' : HH} {K : Option WS} {tp : List Int32} {S : Nat → SH} {i : Nat} {y : SH} (e : ∀ q, q < 85 → h' q = h q) (e2 : ∀ j, j < 4 → j ≠ i → h' 85 j = h 85 j ∧ h' 86 j = h 86 j ∧ h' (88 + j) = h (88 + j)) (hy : shM h' i y) (a : reM h K tp S) : reM h' K tp (upS S i y) := by
  obtain ⟨a1, a2, a3, a4, a5⟩ := a
  refine ⟨by rw [e 1 (by omega)]; exact a1, fun z hz => imM_eq (fun q hq => e q (by omega)) (a2 z hz), by rw [e 1 (by omega)]; exact a3, fun j z hj => by rw [e 29 (by omega)]; exact a4 j z hj, fun j hj => ?_⟩
  unfold upS
  by_cases d : j = i
  · subst d
    rw [if_pos rfl]
    exact hy
  · rw [if_neg d]
    obtain ⟨q1, q2, q3⟩ := e2 j hj d
    obtain ⟨v1, v2, v3, v4⟩ := a5 j hj
    exact ⟨v1, q1.trans v2, q2.trans v3, fun k z hk => by rw [q3]; exact v4 k z hk⟩
theorem wM_lo {h h' : HH} {x : WS} (e : ∀ q, q < 29 → h' q = h q) (hw : wM h x) : wM h' x := by
  obtain ⟨n, F, V, P, pr, c0, c1, c2⟩ := x
  obtain ⟨a1, a2, a3, a4, a5, a6, a7, b1, b2, b3, b4, b5⟩ := hw
  have e1 := e 1 (by omega)
  exact ⟨a1, by rw [e1]; exact a2, fun t ht => by rw [e 2 (by omega)]; exact a3 t ht, fun s hs => (avM_eq (e _ (by omega)) (e _ (by omega)) (e _ (by omega)) (e _ (by omega))).trans (a4 s hs), a5, by rw [e1]; exact a6, fun i y hi => patM_eq (e _ (by omega)) (e _ (by omega)) (e _ (by have := (List.getElem?_eq_some_iff.mp hi).1; omega)) (a7 i y hi), by rw [e1]; exact b1, by rw [e1]; exact b2, by rw [e1]; exact b3, by rw [e1]; exact b4, bM_eq (fun q _ _ => e q (by omega)) b5⟩
def shB (a : Int32) : Bool := !(decide (a < 0)) && !(decide (4 ≤ a))
theorem isSheet_a {h : HH} (a : Int32) : fX7_isSheet h RA a = some (b2i (shB a)) := by
  unfold fX7_isSheet fX7_isSheet_b13 shB
  by_cases h1 : a < 0
  · simp [h1, b2i]
  · by_cases h2 : 4 ≤ a <;> simp [h1, h2, b2i]
theorem isSheet_m {h : HH} (a : Int32) : fX8_isSheet h RM a = some (b2i (shB a)) := by
  unfold fX8_isSheet shB
  rw [in_m, Option.bind_some, bz_t (b2i_01 _)]
  congr 4
theorem shB_n {a : Int32} (h : shB a = true) : ∃ s, s < 4 ∧ a = nI s := by
  unfold shB at h
  simp only [Bool.and_eq_true, Bool.not_eq_true', decide_eq_false_iff_not] at h
  obtain ⟨j, hj, rfl⟩ := nI_of h.1
  exact ⟨j, by have := mt (n_le (show (4 : Int32) = nI 4 by decide) (by decide) j hj).mpr h.2; omega, rfl⟩
theorem l40 : (40 : Int32) = nI 40 := by decide
theorem le40 {i : Nat} (h : i < 2 ^ 31) : (40 : Int32) ≤ nI i ↔ 40 ≤ i := n_le l40 (by decide) i h
theorem n40 : (40 : Nat) < 2 ^ 31 := by decide
theorem renew_a {h : HH} {i : Nat} (hi : i < 4) (a n : Int32) : ∃ h', fX3_renew h RA (121 + 2 * i) a n = some h' ∧ h' (121 + 2 * i) 0 = a ∧ h' (121 + 2 * i) 1 = n ∧ (∀ j, j < 40 → h' (121 + 2 * i + 1) j = 0) ∧ ∀ q, q ≠ 121 + 2 * i → q ≠ 121 + 2 * i + 1 → h' q = h q := by
  obtain ⟨r1, r2, r3⟩ := A_s i hi
  have key := loop_inv (L := fX3_renew_b12 RA (121 + 2 * i) a n) (e := 40) (I := fun j s => (∀ q, q ≠ 121 + 2 * i + 1 → s q = up (up h (121 + 2 * i) 0 a) (121 + 2 * i) 1 n q) ∧ ∀ t, t < j → s (121 + 2 * i + 1) t = 0) (g := fun s => some s) (fun m j s hj hI => by
    refine ⟨up s (121 + 2 * i + 1) j 0, ?_, fun q hq => (up_ne hq).trans (hI.1 q hq), fun t ht => ?_⟩
    · rw [fX3_renew_b12, if_neg (fun z => by have := (le40 (by omega)).mp z; omega), r2, r3, gd_in hj n40, lt_eq, ix_n (by omega), n_p1]
    · rw [up_at]
      by_cases e : t = j
      · rw [if_pos e]
      · rw [if_neg e]; exact hI.2 t (by omega)) (fun m s hI => by rw [fX3_renew_b12, if_pos ((le40 (by omega)).mpr (Nat.le_refl 40))])
  obtain ⟨s, ⟨I1, I2⟩, e⟩ := key lpF 0 (up (up h (121 + 2 * i) 0 a) (121 + 2 * i) 1 n) (by omega) (by rw [lpF_eq]; omega) ⟨fun _ _ => rfl, fun t ht => by omega⟩
  have e' : fX3_renew h RA (121 + 2 * i) a n = some s := by
    unfold fX3_renew
    rw [lt_eq, lt_eq, l0]
    exact e
  refine ⟨s, e', ?_, ?_, I2, fun q h1 h2 => ?_⟩
  · rw [I1 _ (by omega), up_at, if_neg (by decide), up_same]
  · rw [I1 _ (by omega), up_same]
  · rw [I1 q h2, up_ne h1, up_ne h1]
theorem zero_m {h : HH} {i : Nat} (hi : i < 4) (a b : Int32) : ∃ h', fX8_sheet_b65 RM 1 (nI i) a b lpF h 0 = some (1, h') ∧ (∀ j, j < 40 → h' (88 + i) j = 0) ∧ ∀ q, q ≠ 88 + i → h' q = h q := by
  have key := loop_inv (L := fX8_sheet_b65 RM 1 (nI i) a b) (e := 40) (I := fun j s => (∀ q, q ≠ 88 + i → s q = h q) ∧ ∀ t, t < j → s (88 + i) t = 0) (g := fun s => some (1, s)) (fun m j s hj hI => by
    refine ⟨up s (88 + i) j 0, ?_, fun q hq => (up_ne hq).trans (hI.1 q hq), fun t ht => ?_⟩
    · rw [fX8_sheet_b65, if_neg (fun z => by have := (le40 (by omega)).mp z; omega), M_53, ln_87, gd_in hi (by decide), ix_n (show i < 2 ^ 31 by omega), R_87 i hi, L_87 i hi, gd_in hj n40, lt_eq, ix_n (by omega), n_p1]
    · rw [up_at]
      by_cases e : t = j
      · rw [if_pos e]
      · rw [if_neg e]; exact hI.2 t (by omega)) (fun m s hI => by rw [fX8_sheet_b65, if_pos ((le40 (by omega)).mpr (Nat.le_refl 40))])
  obtain ⟨s, ⟨I1, I2⟩, e⟩ := key lpF 0 h (by omega) (by rw [lpF_eq]; omega) ⟨fun _ _ => rfl, fun t ht => by omega⟩
  exact ⟨s, e, I2, I1⟩
theorem rep_get {n j : Nat} {y : Int32} (h : (List.replicate n (0 : Int32))[j]? = some y) : j < n ∧ y = 0 := by
  rw [List.getElem?_replicate] at h
  split at h
  · rename_i hj
    exact ⟨hj, (Option.some.inj h).symm⟩
  · cases h
/-- a sheet made anew, on both sides -/
theorem both_new {hA hM : HH} {x : WS} {K : Option WS} {tp : List Int32} {S : Nat → SH} {i n : Nat} {a : Int32} (hi : i < 4) (hn : n ≤ 40) (ha : a = -1 ∧ n = 0 ∨ a = 0 ∨ a = 1) (b c : Int32) (i1 : wfS x) (i2 : ∀ y, K = some y → wfS y) (i3 : soS S) (i4 : wA hA 2 x) (i5 : wM hM x) (i6 : reA hA K tp S) (i7 : reM hM K tp S) : ∃ hA' hM', fX3_renew hA RA (121 + 2 * i) a (nI n) = some hA' ∧ fX8_sheet_b65 RM 1 (nI i) b c lpF (up (up hM 85 i a) 86 i (nI n)) 0 = some (1, hM') ∧ Inv hA' hM' := by
  obtain ⟨h1, e1, q1, q2, q3, q4⟩ := renew_a (h := hA) hi a (nI n)
  obtain ⟨h2, e2, p1, p2⟩ := zero_m (h := up (up hM 85 i a) 86 i (nI n)) hi b c
  refine ⟨h1, h2, e1, e2, x, K, tp, upS S i (a, List.replicate n 0), i1, i2, ?_, wA_eq (fun q k1 k2 => q4 q (by omega) (by omega)) i4, wM_lo (fun q hq => by rw [p2 q (by omega), up_ne (by omega), up_ne (by omega)]) i5, reA_S hi q4 ⟨by simpa using hn, q1, by simpa using q2, fun j y hj => ?_⟩ i6, reM_S (fun q hq => by rw [p2 q (by omega), up_ne (by omega), up_ne (by omega)]) (fun j hj hd => ⟨?_, ?_, ?_⟩) ⟨by simpa using hn, ?_, ?_, fun j y hj => ?_⟩ i7⟩
  · intro j hj
    unfold upS
    by_cases d : j = i
    · rw [if_pos d]
      rcases ha with ⟨k1, k2⟩ | k | k
      · exact Or.inl ⟨k1, by rw [k2]; rfl⟩
      · exact Or.inr (Or.inl k)
      · exact Or.inr (Or.inr k)
    · rw [if_neg d]; exact i3 j hj
  · obtain ⟨k1, k2⟩ := rep_get hj
    rw [q3 j (by omega), k2]
  · rw [p2 _ (by omega), up_ne (by decide), up_at, if_neg hd]
  · rw [p2 _ (by omega), up_at, if_neg hd, up_ne (by decide)]
  · rw [p2 _ (by omega), up_ne (by omega), up_ne (by omega)]
  · rw [p2 _ (by omega), up_ne (by decide), up_same]
  · rw [p2 _ (by omega), up_same]; simp
  · obtain ⟨k1, k2⟩ := rep_get hj
    rw [p1 j (by omega), k2]
theorem n_of40 {c : Int32} (h0 : 0 ≤ c) (h : c ≤ 40) : ∃ n, n ≤ 40 ∧ c = nI n := by
  have k0 : ¬ c < 0 := by
    rw [Int32.le_iff_toInt_le] at h0
    rw [Int32.lt_iff_toInt_lt]
    omega
  obtain ⟨j, hj, rfl⟩ := nI_of k0
  rw [l40] at h
  exact ⟨j, (nI_leI hj n40).mp h, rfl⟩
theorem s_sheet : S_sheet Inv := by
  rintro hA hM I0 a so c
  have I1 := I0
  obtain ⟨x, K, tp, S, i1, i2, i3, i4, i5, i6, i7⟩ := I0
  unfold fX7_sheet fX8_sheet
  rw [isSheet_a, isSheet_m, Option.bind_some, Option.bind_some, b2i_if, b2i_if]
  cases hs : shB a with
  | false => exact ⟨_, hA, hM, rfl, rfl, I1⟩
  | true =>
  obtain ⟨i, hi, rfl⟩ := shB_n hs
  rw [if_pos rfl, if_pos rfl, in_m, Option.bind_some, b2i_if, A_17, A_120, ix_n (show i < 2 ^ 31 by omega), (A_s i hi).1]
  have t1 : (-1 : Int32).toInt = -1 := by decide
  have t2 : (1 : Int32).toInt = 1 := by decide
  have t0 : (0 : Int32).toInt = 0 := by decide
  by_cases g1 : so < -1
  · exact ⟨_, hA, hM, by rw [if_pos g1], by rw [ifF (by simp [g1])], I1⟩
  by_cases g2 : ¬ so ≤ 1
  · have g3 : 1 < so := by
      rw [Int32.le_iff_toInt_le] at g2
      rw [Int32.lt_iff_toInt_lt]
      omega
    exact ⟨_, hA, hM, by rw [if_neg g1, if_neg g2], by rw [ifF (by simp [g3])], I1⟩
  have g2 := Classical.not_not.mp g2
  have g3 : ¬ 1 < so := by
    rw [Int32.le_iff_toInt_le] at g2
    rw [Int32.lt_iff_toInt_lt]
    omega
  rw [if_neg g1, if_pos g2, ifT (by simp [g1, g3])]
  by_cases g4 : so = -1
  · subst g4
    rw [if_neg (fun z => z rfl), if_pos (show (-1 : Int32) < 0 by decide), gd_in hi (by decide)]
    obtain ⟨h1, h2, e1, e2, I2⟩ := both_new (i := i) (n := 0) (a := -1) hi (by decide) (Or.inl ⟨rfl, rfl⟩) (-1) c i1 i2 i3 i4 i5 i6 i7
    rw [show (0 : Int32) = nI 0 from rfl, e1, Option.bind_some]
    refine ⟨_, h1, h2, rfl, ?_, I2⟩
    unfold fX8_sheet_b29 fX8_sheet_b40
    rw [if_pos (show (-1 : Int32) < 0 by decide), M_51, M_52, ln_85, gd_in hi (by decide), ix_n (show i < 2 ^ 31 by omega), lt_eq, if_neg (show ¬ (0 : Int32) ≤ -1 by decide)]
    unfold fX8_sheet_b61
    rw [ln_86, gd_in hi (by decide), ix_n (show i < 2 ^ 31 by omega), lt_eq]
    exact e2
  · have g5 : ¬ so < 0 := by
      intro z
      apply g4
      apply Int32.toInt_inj.mp
      rw [Int32.lt_iff_toInt_lt] at g1 z
      omega
    have g6 : so = 0 ∨ so = 1 := by
      have : so.toInt = 0 ∨ so.toInt = 1 := by
        rw [Int32.lt_iff_toInt_lt] at g5
        rw [Int32.le_iff_toInt_le] at g2
        omega
      rcases this with k | k
      · exact Or.inl (Int32.toInt_inj.mp (k.trans t0.symm))
      · exact Or.inr (Int32.toInt_inj.mp (k.trans t2.symm))
    rw [if_pos g4, if_neg g5]
    by_cases g7 : ¬ c ≤ 40
    · exact ⟨_, hA, hM, by rw [if_neg g7], by rw [if_neg g7], I1⟩
    have g7 := Classical.not_not.mp g7
    rw [if_pos g7, if_pos g7]
    unfold fX8_sheet_b29
    rw [if_neg g5]
    by_cases g8 : ¬ 0 ≤ c
    · exact ⟨_, hA, hM, by rw [if_neg g8], by rw [if_neg g8], I1⟩
    have g8 := Classical.not_not.mp g8
    obtain ⟨n, hn, rfl⟩ := n_of40 g8 g7
    obtain ⟨h1, h2, e1, e2, I2⟩ := both_new (i := i) (n := n) (a := so) hi hn (Or.inr g6) so (nI n) i1 i2 i3 i4 i5 i6 i7
    have g9 : (0 : Int32) ≤ so := by
      rw [Int32.lt_iff_toInt_lt] at g5
      rw [Int32.le_iff_toInt_le]
      omega
    rw [if_pos g8, if_pos g8, gd_in hi (by decide), e1, Option.bind_some]
    refine ⟨_, h1, h2, rfl, ?_, I2⟩
    unfold fX8_sheet_b40
    rw [M_51, M_52, ln_85, gd_in hi (by decide), ix_n (show i < 2 ^ 31 by omega), lt_eq, if_pos g9]
    unfold fX8_sheet_b61
    rw [ln_86, gd_in hi (by decide), ix_n (show i < 2 ^ 31 by omega), lt_eq]
    exact e2
