/-! matches -/
theorem nm_of {v : TV} {t : Nat} {r : Nat → Int32} (h : pathR r v t) {j : Nat} (hj : j < plen v t) : r j = nmR v t j := h j hj
def ptB (np : Nat) (a : Int32) : Bool := !(decide (a < 0)) && !(decide (nI np ≤ a))
theorem wA_path {h h' : HH} {w : Nat} {x : WS} (e : ∀ q, q ≠ w + 4 → h' q = h q) (hw : wA h w x) : wA h' w x := wA_scr (fun q _ _ h4 _ => e q h4) hw
theorem reA_4 {h h' : HH} {K : Option WS} {tp : List Int32} {S : Nat → SH} (e : ∀ q, q ≠ 6 → h' q = h q) (a : reA h K tp S) : reA h' K tp S := reA_eq (by rw [e 1 (by decide)]) (fun q hq => e q (by omega)) a
theorem wM_frI {h h' : HH} {x : WS} (e : frI h h') (hw : wM h x) : wM h' x := by
  obtain ⟨n, F, V, P, pr, c0, c1, c2⟩ := x
  obtain ⟨d1, d2, d3, d4, d5, d6, d7, e1, e2, e3, e4, e5⟩ := hw
  refine ⟨d1, by rw [e.2 0 (by decide)]; exact d2, fun t ht => by rw [e.1 2 (by decide) (by decide) (by decide)]; exact d3 t ht, fun s hs => (frI_av e hs).trans (d4 s hs), d5, by rw [e.2 11 (by decide)]; exact d6, fun i y hi => ?_, by rw [e.2 1 (by decide)]; exact e1, by rw [e.2 7 (by decide)]; exact e2, by rw [e.2 8 (by decide)]; exact e3, by rw [e.2 9 (by decide)]; exact e4, bM_eq (fun q _ _ => e.1 q (by omega) (by omega) (by omega)) e5⟩
  have hl := (List.getElem?_eq_some_iff.mp hi).1
  exact patM_eq (e.1 20 (by decide) (by decide) (by decide)) (e.1 21 (by decide) (by decide) (by decide)) (e.1 _ (by omega) (by omega) (by omega)) (d7 i y hi)
theorem reM_frI {h h' : HH} {K : Option WS} {tp : List Int32} {S : Nat → SH} (e : frI h h') (a : reM h K tp S) : reM h' K tp S := reM_eq (e.2 43 (by decide)) (e.2 16 (by decide)) (fun q hq => e.1 q (by omega) (by omega) (by omega)) a
theorem paM_of {h : HH} {n : Nat} {F : Nat → Bool} {V : Nat → TV} {P : List PT} {pr c0 c1 c2 : Int32} (hw : wM h (n, F, V, P, pr, c0, c1, c2)) : paM h P := ⟨hw.2.2.2.2.1, hw.2.2.2.2.2.1, hw.2.2.2.2.2.2.1⟩
theorem lgS_full {M : Nat → Bool} {len : Nat} (h : 0 < len) : lgS M len = len ↔ M len = true := by
  obtain ⟨m, rfl⟩ : ∃ m, len = m + 1 := ⟨len - 1, by omega⟩
  unfold lgS
  have := lgS_le (M := M) m
  by_cases e : M (m + 1) = true
  · rw [if_pos e]; exact ⟨fun _ => e, fun _ => rfl⟩
  · rw [if_neg e]; exact ⟨fun z => by omega, fun z => absurd z e⟩
theorem lt_pred {n p : Nat} (hn : n < 2 ^ 31) (hp : p < 2 ^ 31) : nI n - 1 < nI p ↔ n ≤ p := by
  cases n with
  | zero =>
    have e : nI 0 - 1 = -1 := by decide
    rw [e]
    refine ⟨fun _ => Nat.zero_le _, fun _ => ?_⟩
    have h := n_lt0 p hp
    rw [Int32.lt_iff_toInt_lt] at h ⊢
    have h2 : (-1 : Int32).toInt = -1 := by decide
    have h3 : (0 : Int32).toInt = 0 := by decide
    omega
  | succ m =>
    rw [nI_pred, nI_ltI (by omega) hp]
    omega
theorem in_pred {np : Nat} (hn : np < 2 ^ 31) (a : Int32) : (!(decide (a < 0)) && !(decide (nI np - 1 < a))) = thB np a := by
  unfold thB
  by_cases h0 : a < 0
  · simp [h0]
  · obtain ⟨p, hp, rfl⟩ := nI_of h0
    have e1 := lt_pred hn hp
    have e2 := nI_leI hn hp
    have : decide (nI np - 1 < nI p) = decide (nI np ≤ nI p) := by
      rw [decide_eq_decide, e1, e2]
    rw [this]
theorem s_matches : S_matches Inv := by
  rintro hA hM I0 a b c
  have I1 := I0
  obtain ⟨⟨n, F, V, P, pr, c0, c1, c2⟩, K, tp, S, i1, i2, i3, i4, i5, i6, i7⟩ := I0
  have i40 := i4
  have i50 := i5
  obtain ⟨a1, a2, a3, a4, a5, a6, a7, a8, a9, b1, b2, b3, b4⟩ := i4
  obtain ⟨d1, d2, d3, d4, d5, d6, d7, e1, e2, e3, e4⟩ := i5
  have hall : ∀ s, s < 3 → wfT n F (V s) := i1.1
  have em : fX8_matches hM RM 1 a b c = if (thB P.length a && trB b && thB n c) = true then (gd (inb b (lnM (RM 1 3))) (gd (inb c (lnM (RM (RM 1 3) (ix b)))) (if ¬ (hM (RM (RM 1 3) (ix b)) (ix c)) = 0 then ((fX8_tellPath hM RM 1 b c).bind (fun h49 => bi2 (fX8_doesMatch h49 RM 1 a) (fun v54 h54 => if v54 = 0 then (some (0, h54)) else (some (1, h54))))) else (some ((-3), hM))))) else some (-2, hM) := by
    unfold fX8_matches
    simp only [in_m, isPlace_m, isThing_m d1 d2, Option.bind_some, b2i_if, b2i_ifn, d6, in_pred (show P.length < 2 ^ 31 by omega)]
    cases thB P.length a <;> cases trB b <;> cases thB n c <;> rfl
  have ea : fX7_matches hA RA 1 a b c = if (thB P.length a && trB b && thB n c) = true then (gd (inb b (lnA (RA 2 2))) ((fX5_has hA RA (RA (RA 2 2) (ix b)) c).bind (fun v46 => if ¬ v46 = 0 then (gd (inb b (lnA (RA 2 2))) (bi2 (fX5_pathOf hA RA (RA (RA 2 2) (ix b)) c (RA 2 9)) (fun v72 h72 => gd (inb a (lnA (RA 2 3))) ((fX1_longestFit h72 RA (RA (RA 2 3) (ix a)) (RA 2 9) v72).bind (fun v95 => if ¬ v95 = v72 then (fX7_matches_b108 RA 1 a b c h72 0) else (fX7_matches_b108 RA 1 a b c h72 1)))))) else (some ((-3), hA))))) else some (-2, hA) := by
    unfold fX7_matches
    rw [A_10]
    simp only [isTree_a, isThing_a a2, Option.bind_some, b2i_if, b2i_ifn, a7]
    unfold thB
    by_cases g0 : a < 0 <;> by_cases g1 : nI P.length ≤ a <;> cases trB b <;> by_cases g2 : c < 0 <;> by_cases g3 : nI n ≤ c <;> simp [g0, g1, g2, g3]
  rw [em, ea]
  cases hq : (thB P.length a && trB b && thB n c) with
  | false => exact ⟨_, hA, hM, rfl, rfl, I1⟩
  | true =>
  simp only [Bool.and_eq_true] at hq
  obtain ⟨p, hp, rfl⟩ := thB_n (by omega) hq.1.1
  obtain ⟨s, hs, rfl⟩ := trB_n hq.1.2
  obtain ⟨t, ht, rfl⟩ := thB_n a1 hq.2
  obtain ⟨r1, hT⟩ := isW_T (s := s) isW_2 hs
  obtain ⟨u1, u2⟩ := a5 s hs
  have v1 := d4 s hs
  rw [if_pos rfl, if_pos rfl, isW_2.2.1, isW_2.2.2.2.2.2.2.1, gd_in hs (by decide), gd_in hs (by decide), ix_n (show s < 2 ^ 31 by omega), r1, has_n hT (by omega), Option.bind_some, u1, b2i_ifn, M_3, ln_3, gd_in hs (by decide), R_3 s hs, L_3 s hs, gd_in (show t < 30 by omega) n30, ix_n (show t < 2 ^ 31 by omega), inM_ifn (show t < 30 by omega), v1]
  cases hin : isIn (V s) t with
  | false => exact ⟨_, hA, hM, rfl, rfl, I1⟩
  | true =>
  rw [if_pos rfl, if_pos rfl, isW_2.2.2.2.1]
  have m4 : lnA (2 + 4) = 30 := isW_2.2.2.2.2.2.2.2.2.1
  obtain ⟨h1, f1, f2, f3⟩ := pathOf_a (P := 2 + 4) hT m4 (by omega) (by rw [u1]; exact hin) (by rw [u1]; exact hall s hs)
  rw [u1] at f1 f3
  obtain ⟨h2, g1, g2, g3, g4, g5⟩ := tellPath_m (h := hM) hs (by rw [v1]; exact hin) (by rw [v1]; exact hall s hs)
  rw [v1] at g4 g5
  have fI : frI hM h2 := ⟨fun q e1 _ e3 => g2 q e1 e3, g3⟩
  obtain ⟨y1, y2, y3, y4⟩ := (frI_pa fI (paM_of i50)).2.2 p _ (pq_in hp)
  obtain ⟨h3, k1, k2⟩ := doesMatch_m (h := h2) (p := p) (show p < 6 by omega) (plen_le (v := V s) (t := t)) y1 g4 y2
  have fI3 : frI hM h3 := frI_trans fI ⟨fun q _ e _ => k2 q e, fun j _ => by rw [k2 1 (by decide)]⟩
  have mm : col (h2 30) (h2 (23 + p)) (pq P p).1.length (plen (V s) t) = mtP (nmR (V s) t) (pq P p) (plen (V s) t) := mtP_of (fun j z hz => y4 j z hz) (fun j hj => g5 j hj)
  rw [mm] at k1
  obtain ⟨p1, p2, p3, p4⟩ := a8 p _ (pq_in hp)
  obtain ⟨q1, q2, q3⟩ := isW_2.2.2.2.2.2.2.2.2.2.2.2 p (by omega)
  have hfit : fX1_longestFit h1 RA (2 + 21 + 2 * p) (2 + 4) (nI (plen (V s) t)) = some (nI (lgS (mtP (nmR (V s) t) (pq P p)) (plen (V s) t))) := by
    refine (longestFit_a (h := h1) (P := 2 + 21 + 2 * p) (Q := 2 + 4) (size := (pq P p).1.length) (by rw [q2]; omega) (by rw [show 2 + 21 + 2 * p + 1 = 2 + 22 + 2 * p by omega]; exact q3) m4 p1 (by rw [f2 _ (by omega)]; exact p2) (plen_le (v := V s) (t := t))).trans (congrArg (fun z => some (nI z)) (lgS_congr (fun k _ hk => mtP_of (fun j z hz => ?_) (fun j hj => f3 j (by omega)))))
    rw [f2 _ (by omega)]
    exact p4 j z hz
  have hpl : 0 < plen (V s) t := by unfold plen; omega
  have hpl2 : plen (V s) t ≤ 30 := plen_le
  have hfl := lgS_le (M := mtP (nmR (V s) t) (pq P p)) (plen (V s) t)
  have l3 : lnA (2 + 3) = 6 := isW_2.2.2.2.2.2.2.2.1
  rw [f1, bi2_eq, isW_2.2.2.1, l3, gd_in (show p < 6 by omega) (by decide), ix_n (show p < 2 ^ 31 by omega), q1, hfit, Option.bind_some, g1, Option.bind_some, k1, bi2_eq, b2i_if]
  have inv : Inv h1 h3 := ⟨(n, F, V, P, pr, c0, c1, c2), K, tp, S, i1, i2, i3, wA_path f2 i40, wM_frI fI3 i50, reA_4 f2 i6, reM_frI fI3 i7⟩
  cases hm : mtP (nmR (V s) t) (pq P p) (plen (V s) t) with
  | true =>
    rw [(lgS_full hpl).mpr hm, if_neg (fun z => z rfl)]
    exact ⟨1, h1, h3, rfl, rfl, inv⟩
  | false =>
    have : ¬ nI (lgS (mtP (nmR (V s) t) (pq P p)) (plen (V s) t)) = nI (plen (V s) t) := fun z => by
      have := (lgS_full hpl).mp (nI_inj (by omega) (by omega) z)
      rw [hm] at this
      cases this
    rw [if_pos this]
    exact ⟨0, h1, h3, rfl, rfl, inv⟩
