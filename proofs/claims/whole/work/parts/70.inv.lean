/-! what class and reference hold alike between two calls: the world, the image, the tape, the sheets -/
abbrev SH : Type := Int32 × List Int32
def okP (x : WS) : Prop := match x with
  | (_, _, _, _, pr, _, _, _) => pr = 0 ∨ pr = 1
def imM (h : HH) (x : WS) : Prop := match x with
  | (n, F, V, P, pr, c0, c1, c2) => n ≤ 30 ∧ h 58 0 = nI n ∧ (∀ t, t < n → h 63 t = b2i (F t)) ∧ (∀ s, s < 3 → (fun t => if t < 30 then (if h (60 + s) t = 0 then none else some (h (66 + s) t, h (70 + s) t, h (74 + s) t)) else none) = V s) ∧ P.length ≤ 6 ∧ h 58 5 = nI P.length ∧ (∀ i y, P[i]? = some y → y.1.length ≤ 8 ∧ h 84 i = nI y.1.length ∧ h 64 i = b2i y.2 ∧ ∀ j z, y.1[j]? = some z → h (78 + i) j = z) ∧ h 58 1 = pr ∧ h 58 2 = c0 ∧ h 58 3 = c1 ∧ h 58 4 = c2 ∧ ∀ s, s < 3 → ∀ t, t < 30 → h (60 + s) t = 0 ∨ h (60 + s) t = 1
def shA (h : HH) (p : Nat) (x : SH) : Prop := x.2.length ≤ 40 ∧ h p 0 = x.1 ∧ h p 1 = nI x.2.length ∧ ∀ i y, x.2[i]? = some y → h (p + 1) i = y
def shM (h : HH) (i : Nat) (x : SH) : Prop := x.2.length ≤ 40 ∧ h 85 i = x.1 ∧ h 86 i = nI x.2.length ∧ ∀ j y, x.2[j]? = some y → h (88 + i) j = y
def reA (h : HH) (K : Option WS) (tp : List Int32) (S : Nat → SH) : Prop := h 1 3 = b2i K.isSome ∧ (∀ y, K = some y → wA h 35 y) ∧ (tp.length ≤ 40 ∧ ∀ (i : Nat) (y : Int32), tp[i]? = some y → ¬ y = -1) ∧ h 101 1 = nI tp.length ∧ (∀ i y, tp[i]? = some y → h 102 i = y) ∧ ∀ i, i < 4 → shA h (121 + 2 * i) (S i)
def reM (h : HH) (K : Option WS) (tp : List Int32) (S : Nat → SH) : Prop := h 1 43 = b2i K.isSome ∧ (∀ y, K = some y → imM h y) ∧ h 1 16 = nI tp.length ∧ (∀ i y, tp[i]? = some y → h 29 i = y) ∧ ∀ i, i < 4 → shM h i (S i)
def wfS (x : WS) : Prop := allW x ∧ okP x
def soS (S : Nat → SH) : Prop := ∀ i, i < 4 → (S i).1 = -1 ∧ (S i).2 = [] ∨ (S i).1 = 0 ∨ (S i).1 = 1
def Inv (hA hM : HH) : Prop := ∃ (x : WS) (K : Option WS) (tp : List Int32) (S : Nat → SH), wfS x ∧ (∀ y, K = some y → wfS y) ∧ soS S ∧ wA hA 2 x ∧ wM hM x ∧ reA hA K tp S ∧ reM hM K tp S
theorem shA_eq {h h' : HH} {p : Nat} {x : SH} (e1 : h' p = h p) (e2 : h' (p + 1) = h (p + 1)) (a : shA h p x) : shA h' p x := by
  unfold shA
  rw [e1, e2]
  exact a
theorem shM_eq {h h' : HH} {i : Nat} {x : SH} (e1 : h' 85 = h 85) (e2 : h' 86 = h 86) (e3 : h' (88 + i) = h (88 + i)) (a : shM h i x) : shM h' i x := by
  unfold shM
  rw [e1, e2, e3]
  exact a
theorem reA_eq {h h' : HH} {K : Option WS} {tp : List Int32} {S : Nat → SH} (e1 : h' 1 3 = h 1 3) (e : ∀ q, (35 ≤ q ∧ q < 68) ∨ q = 101 ∨ q = 102 ∨ (121 ≤ q ∧ q < 129) → h' q = h q) (a : reA h K tp S) : reA h' K tp S := by
  obtain ⟨a1, a2, a3, a4, a5, a6⟩ := a
  exact ⟨e1.trans a1, fun y hy => wA_eq (fun q h1 h2 => e q (Or.inl ⟨h1, by omega⟩)) (a2 y hy), a3, by rw [e 101 (by omega)]; exact a4, fun i y hi => by rw [e 102 (by omega)]; exact a5 i y hi, fun i hi => shA_eq (e _ (by omega)) (e _ (by omega)) (a6 i hi)⟩
theorem imM_eq {h h' : HH} {x : WS} (e : ∀ q, 58 ≤ q ∧ q < 85 → h' q = h q) (a : imM h x) : imM h' x := by
  obtain ⟨n, F, V, P, pr, c0, c1, c2⟩ := x
  obtain ⟨a1, a2, a3, a4, a5, a6, a7, b1, b2, b3, b4, b5⟩ := a
  have e58 := e 58 (by omega)
  refine ⟨a1, by rw [e58]; exact a2, fun t ht => by rw [e 63 (by omega)]; exact a3 t ht, fun s hs => by rw [e (60 + s) (by omega), e (66 + s) (by omega), e (70 + s) (by omega), e (74 + s) (by omega)]; exact a4 s hs, a5, by rw [e58]; exact a6, fun i y hi => ?_, by rw [e58]; exact b1, by rw [e58]; exact b2, by rw [e58]; exact b3, by rw [e58]; exact b4, fun s hs t ht => by rw [e (60 + s) (by omega)]; exact b5 s hs t ht⟩
  have hl : i < P.length := (List.getElem?_eq_some_iff.mp hi).1
  obtain ⟨v1, v2, v3, v4⟩ := a7 i y hi
  exact ⟨v1, by rw [e 84 (by omega)]; exact v2, by rw [e 64 (by omega)]; exact v3, fun j z hz => by rw [e (78 + i) (by omega)]; exact v4 j z hz⟩
theorem reM_eq {h h' : HH} {K : Option WS} {tp : List Int32} {S : Nat → SH} (e1 : h' 1 43 = h 1 43) (e2 : h' 1 16 = h 1 16) (e : ∀ q, q = 29 ∨ (58 ≤ q ∧ q < 92) → h' q = h q) (a : reM h K tp S) : reM h' K tp S := by
  obtain ⟨a1, a2, a3, a4, a5⟩ := a
  exact ⟨e1.trans a1, fun y hy => imM_eq (fun q hq => e q (by omega)) (a2 y hy), e2.trans a3, fun i y hi => by rw [e 29 (by omega)]; exact a4 i y hi, fun i hi => shM_eq (e _ (by omega)) (e _ (by omega)) (e _ (by omega)) (a5 i hi)⟩
theorem reA_W {h h' : HH} {K : Option WS} {tp : List Int32} {S : Nat → SH} (e : frW 2 h h') (a : reA h K tp S) : reA h' K tp S := reA_eq (by rw [e 1 (by omega)]) (fun q hq => e q (by omega)) a
theorem reM_M {h h' : HH} {K : Option WS} {tp : List Int32} {S : Nat → SH} (e : frM h h') (a : reM h K tp S) : reM h' K tp S := reM_eq (e.2 43 (by decide) (by decide) (by decide) (by decide)) (e.2 16 (by decide) (by decide) (by decide) (by decide)) (fun q hq => e.1 q (by omega)) a
theorem upT_all {V : Nat → TV} {s n m : Nat} {F G : Nat → Bool} {v : TV} (hn : n ≤ m) (hG : ∀ t, t < n → G t = F t) (hv : wfT m G v) (h : ∀ s, s < 3 → wfT n F (V s)) : ∀ s', s' < 3 → wfT m G (upT V s v s') := by
  intro s' hs'
  unfold upT
  by_cases e : s' = s
  · rw [if_pos e]; exact hv
  · rw [if_neg e]; exact wfT_F hn hG (h s' hs')
theorem wfS_mk {x : WS} (hx : x.1 ≤ 30) (h : wfS x) (s f nm c : Int32) : wfS (mkS x s f nm c).2 := by
  obtain ⟨n, F, V, P, pr, c0, c1, c2⟩ := x
  obtain ⟨h1, h2⟩ := h
  have h1' : ∀ s, s < 3 → wfT n F (V s) := h1
  unfold mkS
  by_cases g1 : (siB s && plB n f && naB nm && coB c) = true
  · simp only [g1, if_true]
    by_cases g2 : chB F (V (ix s)) f = true
    · simp only [g2, if_true]
      by_cases g3 : n < 30
      · simp only [g3, if_true]
        cases hf : fnd (fun t => isAtS (V (ix s)) t f nm) 0 30 with
        | some t => exact ⟨h1, h2⟩
        | none =>
          simp only [Bool.and_eq_true] at g1
          obtain ⟨i, hi, rfl⟩ := siB_n g1.1.1.1
          rw [ix_n (by omega)] at g2 ⊢
          exact ⟨upT_all (by omega) (fun t ht => by unfold upF; rw [if_neg (by omega)]) (wfT_new g3 g2 (h1' i (by omega))) h1', h2⟩
      · simp only [g3, if_false]; exact ⟨h1, h2⟩
    · simp only [g2, if_false]; exact ⟨h1, h2⟩
  · simp only [g1, if_false]; exact ⟨h1, h2⟩
theorem wfS_wt {x : WS} (h : wfS x) (s t v : Int32) : wfS (wtS x s t v).2 := by
  obtain ⟨n, F, V, P, pr, c0, c1, c2⟩ := x
  obtain ⟨h1, h2⟩ := h
  have h1' : ∀ s, s < 3 → wfT n F (V s) := h1
  unfold wtS
  by_cases g1 : (siB s && thB n t && vaB v) = true
  · simp only [g1, if_true]
    by_cases g2 : isIn (V (ix s)) (ix t) = true
    · simp only [g2, if_true]
      by_cases g3 : F (ix t) = true
      · simp only [g3, if_true]; exact ⟨h1, h2⟩
      · simp only [g3, if_false]
        simp only [Bool.and_eq_true] at g1
        obtain ⟨i, hi, rfl⟩ := siB_n g1.1.1
        rw [ix_n (by omega)] at g2 ⊢
        exact ⟨upT_all (Nat.le_refl n) (fun t ht => rfl) (wfT_cont g2 (h1' i (by omega))) h1', h2⟩
    · simp only [g2, if_false]; exact ⟨h1, h2⟩
  · simp only [g1, if_false]; exact ⟨h1, h2⟩
theorem wfS_mv {x : WS} (hx : x.1 ≤ 30) (h : wfS x) (s t f nm : Int32) : wfS (mvS x s t f nm).2 := by
  obtain ⟨n, F, V, P, pr, c0, c1, c2⟩ := x
  obtain ⟨h1, h2⟩ := h
  have h1' : ∀ s, s < 3 → wfT n F (V s) := h1
  unfold mvS
  by_cases g1 : (siB s && thB n t && plB n f && naB nm) = true
  · simp only [g1, if_true]
    by_cases g2 : isIn (V (ix s)) (ix t) = true
    · simp only [g2, if_true]
      by_cases g3 : chB F (V (ix s)) f = true
      · simp only [g3, if_true]
        cases hu : suS (V (ix s)) t 31 f with
        | some k => exact ⟨h1, h2⟩
        | none =>
          simp only
          by_cases g4 : (fnd (fun j => isAtS (V (ix s)) j f nm) 0 30).all (fun j => decide (nI j = t)) = true
          · rw [if_pos g4]
            simp only [Bool.and_eq_true] at g1
            obtain ⟨i, hi, rfl⟩ := siB_n g1.1.1.1
            obtain ⟨k, hk, rfl⟩ := thB_n hx g1.1.1.2
            rw [ix_n (by omega)] at g2 g3 hu ⊢
            have hk2 : k < n := hk
            have hx2 : n ≤ 30 := hx
            rw [ix_n (by omega)] at g2
            rw [ix_n (by omega)]
            exact ⟨upT_all (Nat.le_refl n) (fun t ht => rfl) (wfT_mv hx2 g2 g3 hu (h1' i (by omega))) h1', h2⟩
          · rw [if_neg g4]; exact ⟨h1, h2⟩
      · simp only [g3, if_false]; exact ⟨h1, h2⟩
    · simp only [g2, if_false]; exact ⟨h1, h2⟩
  · simp only [g1, if_false]; exact ⟨h1, h2⟩
theorem wfS_rm {x : WS} (hx : x.1 ≤ 30) (h : wfS x) (s t : Int32) : wfS (rmS x s t).2 := by
  obtain ⟨n, F, V, P, pr, c0, c1, c2⟩ := x
  obtain ⟨h1, h2⟩ := h
  have h1' : ∀ s, s < 3 → wfT n F (V s) := h1
  unfold rmS
  by_cases g1 : (siB s && thB n t) = true
  · simp only [g1, if_true]
    by_cases g2 : isIn (V (ix s)) (ix t) = true
    · simp only [g2, if_true]
      simp only [Bool.and_eq_true] at g1
      obtain ⟨i, hi, rfl⟩ := siB_n g1.1
      rw [ix_n (by omega)]
      exact ⟨upT_all (Nat.le_refl n) (fun t ht => rfl) (wfT_rm hx (h1' i (by omega))) h1', h2⟩
    · simp only [g2, if_false]; exact ⟨h1, h2⟩
  · simp only [g1, if_false]; exact ⟨h1, h2⟩
theorem A_10 : RA 1 0 = 2 := by decide +kernel
theorem A_11 : RA 1 1 = 35 := by decide +kernel
theorem A_12 : RA 1 2 = 68 := by decide +kernel
theorem A_14 : RA 1 4 = 101 := by decide +kernel
theorem A_15 : RA 1 5 = 103 := by decide +kernel
theorem A_16 : RA 1 6 = 115 := by decide +kernel
theorem A_17 : RA 1 7 = 120 := by decide +kernel
theorem wA_n {h : HH} {w : Nat} {x : WS} (a : wA h w x) : x.1 ≤ 30 := by
  obtain ⟨n, F, V, P, pr, c0, c1, c2⟩ := x
  exact a.1
theorem s_make : S_make Inv := by
  rintro hA hM ⟨x, K, tp, S, i1, i2, i3, i4, i5, i6, i7⟩ a1 a2 a3 a4
  obtain ⟨hA', e1, w1, f1⟩ := create_a isW_2 i4 (allW_N i1.1) a1 a2 a3 a4
  obtain ⟨hM', e2, w2, f2⟩ := make_m i5 i1.1 a1 a2 a3 a4
  exact ⟨_, hA', hM', by unfold fX7_make; rw [A_10, e1, bi2_eq], e2, _, K, tp, S, wfS_mk (wA_n i4) i1 a1 a2 a3 a4, i2, i3, w1, w2, reA_W f1 i6, reM_M f2 i7⟩
theorem s_write : S_write Inv := by
  rintro hA hM ⟨x, K, tp, S, i1, i2, i3, i4, i5, i6, i7⟩ a1 a2 a3
  obtain ⟨hA', e1, w1, f1⟩ := rewrite_a isW_2 i4 a1 a2 a3
  obtain ⟨hM', e2, w2, f2⟩ := write_m i5 a1 a2 a3
  exact ⟨_, hA', hM', by unfold fX7_write; rw [A_10, e1, bi2_eq], e2, _, K, tp, S, wfS_wt i1 a1 a2 a3, i2, i3, w1, w2, reA_W f1 i6, reM_M f2 i7⟩
theorem s_move : S_move Inv := by
  rintro hA hM ⟨x, K, tp, S, i1, i2, i3, i4, i5, i6, i7⟩ a1 a2 a3 a4
  obtain ⟨hA', e1, w1, f1⟩ := carry_a isW_2 i4 (allW_N i1.1) a1 a2 a3 a4
  obtain ⟨hM', e2, w2, f2⟩ := move_m i5 i1.1 a1 a2 a3 a4
  exact ⟨_, hA', hM', by unfold fX7_move; rw [A_10, e1, bi2_eq], e2, _, K, tp, S, wfS_mv (wA_n i4) i1 a1 a2 a3 a4, i2, i3, w1, w2, reA_W f1 i6, reM_M f2 i7⟩
theorem s_remove : S_remove Inv := by
  rintro hA hM ⟨x, K, tp, S, i1, i2, i3, i4, i5, i6, i7⟩ a1 a2
  obtain ⟨hA', e1, w1, f1⟩ := erase_a isW_2 i4 a1 a2
  obtain ⟨hM', e2, w2, f2⟩ := remove_m i5 i1.1 a1 a2
  exact ⟨_, hA', hM', by unfold fX7_remove; rw [A_10, e1, bi2_eq], e2, _, K, tp, S, wfS_rm (wA_n i4) i1 a1 a2, i2, i3, w1, w2, reA_W f1 i6, reM_M f2 i7⟩
