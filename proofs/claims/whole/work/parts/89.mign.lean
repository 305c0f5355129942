/-! the same on the reference -/
theorem dpS_stab {v : TV} : ∀ {k K K' : Nat} {x : Int32}, endsV v k x → k ≤ K → k ≤ K' → dpS v K x = dpS v K' x := by
  intro k
  induction k with
  | zero =>
    intro K K' x he _ _
    have he : x = -1 := he
    rw [he, dpS_m1, dpS_m1]
  | succ k ih =>
    intro K K' x he h1 h2
    rcases he with he | ⟨g, hg, e, hin, hrec⟩
    · rw [he, dpS_m1, dpS_m1]
    · subst e
      obtain ⟨K, rfl⟩ : ∃ m, K = m + 1 := ⟨K - 1, by omega⟩
      obtain ⟨K', rfl⟩ : ∃ m, K' = m + 1 := ⟨K' - 1, by omega⟩
      rw [dpS_succ hg hin, dpS_succ hg hin, ih hrec (show k ≤ K by omega) (show k ≤ K' by omega)]
theorem upN_stab {v : TV} : ∀ {k K K' : Nat} {x : Int32}, endsV v k x → k ≤ K → k ≤ K' → upN v K x = upN v K' x := by
  intro k
  induction k with
  | zero =>
    intro K K' x he _ _
    have he : x = -1 := he
    rw [he, upN_m1, upN_m1]
  | succ k ih =>
    intro K K' x he h1 h2
    rcases he with he | ⟨g, hg, e, hin, hrec⟩
    · rw [he, upN_m1, upN_m1]
    · subst e
      obtain ⟨K, rfl⟩ : ∃ m, K = m + 1 := ⟨K - 1, by omega⟩
      obtain ⟨K', rfl⟩ : ∃ m, K' = m + 1 := ⟨K' - 1, by omega⟩
      rw [upN_succ hg hin, upN_succ hg hin, ih hrec (show k ≤ K by omega) (show k ≤ K' by omega)]
def frI (h h' : HH) : Prop := (∀ q, q ≠ 30 → q ≠ 31 → q ≠ 1 → h' q = h q) ∧ ∀ j, j ≠ 22 → h' 1 j = h 1 j
theorem frI_rfl {h : HH} : frI h h := ⟨fun _ _ _ _ => rfl, fun _ _ => rfl⟩
theorem frI_trans {h h' h'' : HH} (a : frI h h') (b : frI h' h'') : frI h h'' := ⟨fun q e1 e2 e3 => (b.1 q e1 e2 e3).trans (a.1 q e1 e2 e3), fun j e => (b.2 j e).trans (a.2 j e)⟩
theorem frI_av {h h' : HH} (a : frI h h') {s : Nat} (hs : s < 3) : avM h' s = avM h s := avM_eq (a.1 _ (by omega) (by omega) (by omega)) (a.1 _ (by omega) (by omega) (by omega)) (a.1 _ (by omega) (by omega) (by omega)) (a.1 _ (by omega) (by omega) (by omega))
def paM (h : HH) (P : List PT) : Prop := P.length ≤ 6 ∧ h 1 11 = nI P.length ∧ ∀ i y, P[i]? = some y → patM h i y
theorem frI_pa {h h' : HH} {P : List PT} (a : frI h h') (hp : paM h P) : paM h' P := ⟨hp.1, (a.2 11 (by decide)).trans hp.2.1, fun i y hi => by
  have hl := (List.getElem?_eq_some_iff.mp hi).1
  have h6 := hp.1
  exact patM_eq (a.1 20 (by decide) (by decide) (by decide)) (a.1 21 (by decide) (by decide) (by decide)) (a.1 _ (by omega) (by omega) (by omega)) (hp.2.2 i y hi)⟩
/-- the patterns from the last on, for one thing on the way up -/
theorem patsDown_m {s f : Nat} {P : List PT} {a2 : Int32} (k2 : HH → Int32 → Option (Int32 × HH)) (hs : s < 3) : ∀ (m n : Nat) (h : HH), m ≤ P.length → m < n → paM h P → isIn (avM h s) f = true → h 1 22 = nI (plen (avM h s) f) → pathR (h 30) (avM h s) f → ∃ h', frI h h' ∧ (((∀ q, q < m → mtP (nmR (avM h s) f) (pq P q) (plen (avM h s) f) = false) ∧ fX8_isIgnoredOn_b21 RM 1 (nI s) a2 k2 n h (nI f) (nI m - 1) = k2 h' (vF (avM h s) f)) ∨ ∃ q, q < m ∧ mtP (nmR (avM h s) f) (pq P q) (plen (avM h s) f) = true ∧ (∀ q', q < q' → q' < m → mtP (nmR (avM h s) f) (pq P q') (plen (avM h s) f) = false) ∧ fX8_isIgnoredOn_b21 RM 1 (nI s) a2 k2 n h (nI f) (nI m - 1) = some (b2i (!(pq P q).2), h')) := by
  intro m
  induction m with
  | zero =>
    intro n h hm hn hP hin h22 hr
    obtain ⟨n, rfl⟩ : ∃ k, n = k + 1 := ⟨n - 1, by omega⟩
    have hf := isInM_lt hin
    refine ⟨h, frI_rfl, Or.inl ⟨fun q hq => by omega, ?_⟩⟩
    rw [fX8_isIgnoredOn_b21, if_pos (show nI 0 - 1 < 0 by decide), M_4, ln_7, gd_in hs (by decide), ix_n (show s < 2 ^ 31 by omega), R_7 s hs, L_7 s hs, gd_in hf n30, ix_n (show f < 2 ^ 31 by omega), lt_eq, (isInM_row hin).2.1]
  | succ m ih =>
    intro n h hm hn hP hin h22 hr
    obtain ⟨n, rfl⟩ : ∃ k, n = k + 1 := ⟨n - 1, by omega⟩
    obtain ⟨p1, p2, p3⟩ := hP
    obtain ⟨y1, y2, y3, y4⟩ := p3 m _ (pq_in (show m < P.length by omega))
    obtain ⟨h1, e1, f1⟩ := doesMatch_m (h := h) (p := m) (show m < 6 by omega) (plen_le (v := avM h s) (t := f)) y1 h22 y2
    have em : col (h 30) (h (23 + m)) (pq P m).1.length (plen (avM h s) f) = mtP (nmR (avM h s) f) (pq P m) (plen (avM h s) f) := mtP_of (fun j z hz => y4 j z hz) (fun j hj => hr j hj)
    rw [em] at e1
    have fI : frI h h1 := ⟨fun q _ e _ => f1 q e, fun j _ => by rw [f1 1 (by decide)]⟩
    have pm : nI m + (-1) = nI m - 1 := (Int32.sub_eq_add_neg _ _).symm
    rw [fX8_isIgnoredOn_b21, nI_pred, if_neg (n_lt0 m (by omega)), e1, bi2_eq, b2i_if, pm]
    cases hmm : mtP (nmR (avM h s) f) (pq P m) (plen (avM h s) f) with
    | true =>
      rw [if_pos rfl, M_12, ln_20, gd_in (show m < 6 by omega) (by decide), ix_n (show m < 2 ^ 31 by omega), f1 20 (by decide), y3, b2i_ifn]
      refine ⟨h1, fI, Or.inr ⟨m, by omega, hmm, fun q' h1 h2 => by omega, ?_⟩⟩
      cases (pq P m).2 <;> rfl
    | false =>
      rw [if_neg (by decide)]
      have ev : avM h1 s = avM h s := frI_av fI hs
      obtain ⟨h', g1, g2⟩ := ih n h1 (by omega) (by omega) (frI_pa fI ⟨p1, p2, p3⟩) (by rw [ev]; exact hin) (by rw [ev, f1 1 (by decide)]; exact h22) (by rw [ev, f1 30 (by decide)]; exact hr)
      rw [ev] at g2
      refine ⟨h', frI_trans fI g1, ?_⟩
      rcases g2 with ⟨g2, g3⟩ | ⟨q, q1, q2, q3, q4⟩
      · refine Or.inl ⟨fun q hq => ?_, g3⟩
        by_cases e : q = m
        · rw [e]; exact hmm
        · exact g2 q (by omega)
      · refine Or.inr ⟨q, by omega, q2, fun q' h1 h2 => ?_, q4⟩
        by_cases e : q' = m
        · rw [e]; exact hmm
        · exact q3 q' h1 (by omega)
theorem igR_ext {M M' : Nat → Nat → Bool} {N : Nat → Bool} {np len : Nat} {b : Bool} (h1 : ∀ q, q < np → M q (len + 1) = false) (h2 : ∀ q i, i ≤ len → M q i = M' q i) (h : igR M' N np len b) : igR M N np (len + 1) b := by
  obtain ⟨inn, h⟩ := h
  rcases h with ⟨x1, x2, x3⟩ | ⟨x1, x2, q, y1, y2, y3, y4, y5⟩
  · refine ⟨inn, Or.inl ⟨x1, x2, fun q hq i i1 i2 => ?_⟩⟩
    by_cases e : i = len + 1
    · rw [e]; exact h1 q hq
    · rw [h2 q i (by omega)]; exact x3 q hq i i1 (by omega)
  · refine ⟨inn, Or.inr ⟨x1, by omega, q, y1, by rw [h2 q inn x2]; exact y2, y3, fun q' g1 g2 => by rw [h2 q' inn x2]; exact y4 q' g1 g2, fun q' g1 i i1 i2 => ?_⟩⟩
    by_cases e : i = len + 1
    · rw [e]; exact h1 q' g1
    · rw [h2 q' i (by omega)]; exact y5 q' g1 i i1 (by omega)
theorem mtP_r {r r' : Nat → Int32} {y : PT} {i : Nat} (hr : ∀ j, j < i → r j = r' j) : mtP r y i = mtP r' y i := col_congr _ _ (fun _ _ => rfl) hr
theorem plen_up {v : TV} {n f g : Nat} {F : Nat → Bool} (hn : n ≤ 30) (hw : wfT n F v) (hin : isIn v f = true) (hg : g < 30) (hf : vF v f = nI g) (hgi : isIn v g = true) : plen v f = plen v g + 1 ∧ ∀ i, i < plen v g → nmR v f i = nmR v g i := by
  have hff : f < 30 := by have := (hw f hin).1; omega
  have en := (hw f hin).2.2
  rw [hf] at en
  have eg := (hw g hgi).2.2
  have e1 : dpS v 29 (nI g) = dpS v 29 (vF v g) + 1 := by
    rw [dpS_stab en (Nat.le_refl 29) (show 29 ≤ 30 by omega), dpS_succ hg hgi]
  have e2 : plen v f = plen v g + 1 := by
    unfold plen
    rw [hf, e1]
  refine ⟨e2, fun i hi => ?_⟩
  unfold nmR
  rw [e2, upN_succ hff hin, hf, show plen v g + 1 - 1 - i = (plen v g - 1 - i) + 1 by omega, upN_stab en (Nat.le_refl 29) (show 29 ≤ 30 by omega)]
  rfl
theorem isIgnoredOn_b {s n : Nat} {P : List PT} {F : Nat → Bool} {a2 : Int32} (hs : s < 3) (hn : n ≤ 30) : ∀ (k m : Nat) (h : HH) (f : Nat), isIn (avM h s) f = true → endsV (avM h s) k (vF (avM h s) f) → k + 1 < m → wfT n F (avM h s) → paM h P → ∃ h' b, fX8_isIgnoredOn_b2 RM 1 (nI s) a2 m h (nI f) = some (b2i b, h') ∧ frI h h' ∧ igR (fun q i => mtP (nmR (avM h s) f) (pq P q) i) (fun q => (pq P q).2) P.length (plen (avM h s) f) b := by
  intro k
  induction k with
  | zero =>
    intro m h f hin he hm hw hP
    obtain ⟨m, rfl⟩ : ∃ z, m = z + 2 := ⟨m - 2, by omega⟩
    have hf := isInM_lt hin
    have he : vF (avM h s) f = -1 := he
    obtain ⟨h1, e1, f1, f2, f3, f4⟩ := tellPath_m hs hin hw
    have fI : frI h h1 := ⟨fun q e1 _ e3 => f1 q e1 e3, f2⟩
    have ev := frI_av fI hs
    have hP1 := frI_pa fI hP
    obtain ⟨h2, g1, g2⟩ := patsDown_m (a2 := a2) (fun h_ z3_ => fX8_isIgnoredOn_b2 RM 1 (nI s) a2 (m + 1) h_ z3_) hs P.length lpF h1 (Nat.le_refl _) (by have := hP.1; rw [lpF_eq]; omega) hP1 (by rw [ev]; exact hin) (by rw [ev]; exact f3) (by rw [ev]; exact f4)
    rw [ev] at g2
    have head : fX8_isIgnoredOn_b2 RM 1 (nI s) a2 (m + 2) h (nI f) = fX8_isIgnoredOn_b21 RM 1 (nI s) a2 (fun h_ z3_ => fX8_isIgnoredOn_b2 RM 1 (nI s) a2 (m + 1) h_ z3_) lpF h1 (nI f) (nI P.length - 1) := by
      rw [fX8_isIgnoredOn_b2, if_neg (m1_ne f (by omega)), e1, Option.bind_some, hP1.2.1, lt_eq]
    have p0 : plen (avM h s) f = 1 := by unfold plen; rw [he, dpS_m1]
    rcases g2 with ⟨g2, g3⟩ | ⟨q, q1, q2, q3, q4⟩
    · refine ⟨h2, false, ?_, frI_trans fI g1, ?_⟩
      · rw [head, g3, he]
        show fX8_isIgnoredOn_b2 RM 1 (nI s) a2 (m + 1) h2 (-1) = _
        rw [fX8_isIgnoredOn_b2, if_pos rfl]
        rfl
      · refine ⟨0, Or.inl ⟨rfl, rfl, fun q hq i i1 i2 => ?_⟩⟩
        rw [p0] at i2
        have := g2 q hq
        rw [p0] at this
        rw [show i = 1 by omega]
        exact this
    · refine ⟨h2, _, head.trans q4, frI_trans fI g1, plen (avM h s) f, Or.inr ⟨by omega, Nat.le_refl _, q, q1, q2, rfl, q3, fun q' h1 i i1 i2 => by omega⟩⟩
  | succ k ih =>
    intro m h f hin he hm hw hP
    obtain ⟨m, rfl⟩ : ∃ z, m = z + 2 := ⟨m - 2, by omega⟩
    have hf := isInM_lt hin
    obtain ⟨h1, e1, f1, f2, f3, f4⟩ := tellPath_m hs hin hw
    have fI : frI h h1 := ⟨fun q e1 _ e3 => f1 q e1 e3, f2⟩
    have ev := frI_av fI hs
    have hP1 := frI_pa fI hP
    obtain ⟨h2, g1, g2⟩ := patsDown_m (a2 := a2) (fun h_ z3_ => fX8_isIgnoredOn_b2 RM 1 (nI s) a2 (m + 1) h_ z3_) hs P.length lpF h1 (Nat.le_refl _) (by have := hP.1; rw [lpF_eq]; omega) hP1 (by rw [ev]; exact hin) (by rw [ev]; exact f3) (by rw [ev]; exact f4)
    rw [ev] at g2
    have head : fX8_isIgnoredOn_b2 RM 1 (nI s) a2 (m + 2) h (nI f) = fX8_isIgnoredOn_b21 RM 1 (nI s) a2 (fun h_ z3_ => fX8_isIgnoredOn_b2 RM 1 (nI s) a2 (m + 1) h_ z3_) lpF h1 (nI f) (nI P.length - 1) := by
      rw [fX8_isIgnoredOn_b2, if_neg (m1_ne f (by omega)), e1, Option.bind_some, hP1.2.1, lt_eq]
    have p1 : 0 < plen (avM h s) f := by unfold plen; omega
    rcases g2 with ⟨g2, g3⟩ | ⟨q, q1, q2, q3, q4⟩
    · rcases he with he | ⟨g, hg, he, hgi, hrec⟩
      · have p0 : plen (avM h s) f = 1 := by unfold plen; rw [he, dpS_m1]
        refine ⟨h2, false, ?_, frI_trans fI g1, ?_⟩
        · rw [head, g3, he]
          show fX8_isIgnoredOn_b2 RM 1 (nI s) a2 (m + 1) h2 (-1) = _
          rw [fX8_isIgnoredOn_b2, if_pos rfl]
          rfl
        · refine ⟨0, Or.inl ⟨rfl, rfl, fun q hq i i1 i2 => ?_⟩⟩
          rw [p0] at i2
          have := g2 q hq
          rw [p0] at this
          rw [show i = 1 by omega]
          exact this
      · have ev2 : avM h2 s = avM h s := (frI_av g1 hs).trans ev
        obtain ⟨h', b, c1, c2, c3⟩ := ih (m + 1) h2 g (by rw [ev2]; exact hgi) (by rw [ev2]; exact hrec) (by omega) (by rw [ev2]; exact hw) (frI_pa g1 hP1)
        rw [ev2] at c3
        obtain ⟨u1, u2⟩ := plen_up hn hw hin hg he hgi
        refine ⟨h', b, ?_, frI_trans (frI_trans fI g1) c2, ?_⟩
        · rw [head, g3, he]
          exact c1
        · rw [u1]
          refine igR_ext (fun q hq => ?_) (fun q i hi => ?_) c3
          · have := g2 q hq
            rw [u1] at this
            exact this
          · exact mtP_r (fun j hj => u2 j (by omega))
    · refine ⟨h2, _, head.trans q4, frI_trans fI g1, plen (avM h s) f, Or.inr ⟨by omega, Nat.le_refl _, q, q1, q2, rfl, q3, fun q' h1 i i1 i2 => by omega⟩⟩
theorem isIgnoredOn_m {h : HH} {s t n : Nat} {P : List PT} {F : Nat → Bool} (hs : s < 3) (hn : n ≤ 30) (hin : isIn (avM h s) t = true) (hw : wfT n F (avM h s)) (hP : paM h P) : ∃ h', fX8_isIgnoredOn h RM 1 (nI s) (nI t) = some (b2i (ignT P (avM h s) t), h') ∧ frI h h' := by
  obtain ⟨h', b, e1, e2, e3⟩ := isIgnoredOn_b (a2 := nI t) hs hn 29 lpF h t hin (hw t hin).2.2 (by rw [lpF_eq]; omega) hw hP
  refine ⟨h', ?_, e2⟩
  unfold fX8_isIgnoredOn
  have : ignT P (avM h s) t = b := igB_of e3
  rw [e1, this]
