/-! a world of the class becomes as another one -/
theorem tree_become {h : HH} {T G : Nat} (hT : isT T) (hG : isT G) (d : T + 5 ≤ G ∨ G + 5 ≤ T) (hc : clT h G) : ∃ h', fX5_become h RA T G = some h' ∧ frT T h h' ∧ avA h' T = avA h G ∧ clT h' T := by
  have key := loop_inv (L := fX5_become_b2 RA T G) (e := 30) (I := fun j s => frT T h s ∧ ∀ t, t < j → s (T + 1) t = b2i (isIn (avA h G) t) ∧ s (T + 2) t = vF (avA h G) t ∧ s (T + 3) t = vN (avA h G) t ∧ s (T + 4) t = vC (avA h G) t) (g := fun s => some s) (fun m j s hj hI => by
    obtain ⟨I1, I2⟩ := hI
    have e := frT_av I1 d
    have c := frT_cl I1 d hc
    refine ⟨_, by rw [fX5_become_b2, if_neg (fun z => by have := (le30 (by omega)).mp z; omega), putAsIn_n hT hG hj d c, Option.bind_some, n_p1], frT_trans I1 frT_wr, fun t ht => ?_⟩
    rw [wr4_1, wr4_2, wr4_3, wr4_4, e]
    by_cases et : t = j
    · simp only [et, if_true]
      exact ⟨trivial, trivial, trivial, trivial⟩
    · simp only [et, if_false]
      exact I2 t (by omega)) (fun m s hI => by rw [fX5_become_b2, if_pos ((le30 (by omega)).mpr (Nat.le_refl 30))])
  obtain ⟨s, ⟨I1, I2⟩, e⟩ := key lpF 0 h (by omega) (by rw [lpF_eq]; omega) ⟨frT_rfl, fun t ht => by omega⟩
  have e' : fX5_become h RA T G = some s := by
    unfold fX5_become
    rw [l0]
    exact e
  refine ⟨s, e', I1, ?_, fun t ht => ?_⟩
  · funext t
    by_cases ht : t < 30
    · obtain ⟨q1, q2, q3, q4⟩ := I2 t ht
      rw [avA_in ht, q1, q2, q3, q4]
      cases hin : isIn (avA h G) t with
      | true => rw [isIn_some hin]; rfl
      | false =>
        unfold isIn at hin
        cases e9 : avA h G t with
        | none => rfl
        | some y => rw [e9] at hin; cases hin
    · rw [avA_out ht, avA_out ht]
  · obtain ⟨q1, q2, q3, q4⟩ := I2 t ht
    cases hin : isIn (avA h G) t with
    | true => exact Or.inr (by rw [q1, hin]; rfl)
    | false =>
      have e9 : avA h G t = none := by
        unfold isIn at hin
        cases e9 : avA h G t with
        | none => rfl
        | some y => rw [e9] at hin; cases hin
      refine Or.inl ⟨by rw [q1, hin]; rfl, ?_, ?_, ?_⟩
      · rw [q2]; unfold vF; rw [e9]
      · rw [q3]; unfold vN; rw [e9]
      · rw [q4]; unfold vC; rw [e9]
def pbH (h : HH) (P Q : Nat) : HH := up (up (cpH h (Q + 1) (P + 1) 0 0 8) P 1 (h Q 1)) P 2 (h Q 2)
theorem cp_8 : cpok 0 0 8 8 8 = true := by decide
theorem ix_0 : ix 0 = 0 := by decide
theorem ix_8 : ix 8 = 8 := by decide
theorem pat_become {h : HH} {P Q : Nat} (p0 : RA P 0 = P + 1) (q0 : RA Q 0 = Q + 1) (lp : lnA (P + 1) = 8) (lq : lnA (Q + 1) = 8) (d : P + 2 ≤ Q ∨ Q + 2 ≤ P) (hb : h Q 2 = 0 ∨ h Q 2 = 1) : fX1_become h RA P Q = some (pbH h P Q) := by
  unfold fX1_become
  rw [p0, q0, lp, lq, gd_t cp_8, ix_0, ix_8, lt_eq, lt_eq, cpH_ne (show Q ≠ P + 1 by omega), up_ne (show Q ≠ P by omega), cpH_ne (show Q ≠ P + 1 by omega), bz_t hb, lt_eq]
  rfl
theorem pb_ne {h : HH} {P Q q : Nat} (h1 : q ≠ P) (h2 : q ≠ P + 1) : pbH h P Q q = h q := by
  unfold pbH
  rw [up_ne h1, up_ne h1, cpH_ne h2]
theorem pb_rows {h : HH} {P Q : Nat} : pbH h P Q P 1 = h Q 1 ∧ pbH h P Q P 2 = h Q 2 ∧ ∀ k, k < 8 → pbH h P Q (P + 1) k = h (Q + 1) k := by
  unfold pbH
  refine ⟨by rw [up_at, if_neg (by decide), up_same], by rw [up_same], fun k hk => ?_⟩
  rw [up_ne (by omega), up_ne (by omega), cpH_at, if_pos (by omega), show 0 + (k - 0) = k by omega]
theorem le3 {i : Nat} (h : i < 2 ^ 31) : (3 : Int32) ≤ nI i ↔ 3 ≤ i := n_le (show (3 : Int32) = nI 3 by decide) (by decide) i h
theorem le6 {i : Nat} (h : i < 2 ^ 31) : (6 : Int32) ≤ nI i ↔ 6 ≤ i := n_le (show (6 : Int32) = nI 6 by decide) (by decide) i h
theorem world_become {h : HH} {w w' : Nat} {x : WS} (iw : isW w) (iw' : isW w') (d : w + 33 ≤ w' ∨ w' + 33 ≤ w) (hw : wA h w' x) : ∃ h', fX6_become h RA w w' = some h' ∧ wA h' w x ∧ frW w h h' := by
  obtain ⟨n, F, V, P, pr, c0, c1, c2⟩ := x
  have hw0 := hw
  obtain ⟨a1, a2, a3, a4, a5, a6, a7, a8, a9, b1, b2, b3, b4⟩ := hw
  have key1 := loop_inv (L := fX6_become_b10 RA w w') (e := 30) (I := fun j s => (∀ q, q ≠ w + 1 → s q = up h w 0 (h w' 0) q) ∧ ∀ t, t < j → s (w + 1) t = h (w' + 1) t) (g := fun s => fX6_become_b36 RA w w' lpF s 0) (fun m j s hj hI => by
    obtain ⟨I1, I2⟩ := hI
    have e1 : s (w' + 1) = h (w' + 1) := by rw [I1 _ (by omega), up_ne (by omega)]
    refine ⟨up s (w + 1) j (h (w' + 1) j), ?_, fun q hq => (up_ne hq).trans (I1 q hq), fun t ht => ?_⟩
    · rw [fX6_become_b10, if_neg (fun z => by have := (le30 (by omega)).mp z; omega), iw.1, iw'.1, iw.2.2.2.2.2.1, iw'.2.2.2.2.2.1, gd_in hj n30, gd_in hj n30, ix_n (by omega), lt_eq, n_p1, e1]
      have : zn (h (w' + 1) j) = h (w' + 1) j := by rcases a3 j hj with k | k <;> rw [k] <;> decide
      rw [this]
    · rw [up_at]
      by_cases e : t = j
      · rw [if_pos e, e]
      · rw [if_neg e]; exact I2 t (by omega)) (fun m s hI => by rw [fX6_become_b10, if_pos ((le30 (by omega)).mpr (Nat.le_refl 30))])
  obtain ⟨h1, ⟨I1, I2⟩, E1⟩ := key1 lpF 0 (up h w 0 (h w' 0)) (by omega) (by rw [lpF_eq]; omega) ⟨fun _ _ => rfl, fun t ht => by omega⟩
  have key2 := loop_inv (L := fX6_become_b36 RA w w') (e := 3) (I := fun j s => (∀ q, q < w + 6 ∨ w + 21 ≤ q → s q = h1 q) ∧ ∀ i, i < j → avA s (w + 6 + 5 * i) = V i ∧ clT s (w + 6 + 5 * i)) (g := fun s => fX6_become_b64 RA w w' lpF s 0) (fun m j s hj hI => by
    obtain ⟨J1, J2⟩ := hI
    obtain ⟨r1, hT⟩ := isW_T (s := j) iw hj
    obtain ⟨r2, hG⟩ := isW_T (s := j) iw' hj
    have es : ∀ q, w' + 6 ≤ q → q < w' + 21 → s q = h q := fun q k1 k2 => by rw [J1 q (by omega), I1 q (by omega), up_ne (by omega)]
    obtain ⟨u1, u2⟩ := trs_eq es a5 j hj
    obtain ⟨s2, f1, f2, f3, f4⟩ := tree_become (h := s) hT hG (by omega) u2
    refine ⟨s2, ?_, fun q hq => (f2 q (by omega) (by omega) (by omega) (by omega)).trans (J1 q hq), fun i hi => ?_⟩
    · rw [fX6_become_b36, if_neg (fun z => by have := (le3 (by omega)).mp z; omega), iw.2.1, iw'.2.1, iw.2.2.2.2.2.2.1, iw'.2.2.2.2.2.2.1, gd_in hj (by decide), gd_in hj (by decide), ix_n (by omega), r1, r2, f1, Option.bind_some, n_p1]
    · by_cases e : i = j
      · subst e
        exact ⟨f3.trans u1, f4⟩
      · obtain ⟨k1, k2⟩ := J2 i (by omega)
        exact ⟨(frT_av f2 (by omega)).trans k1, frT_cl f2 (by omega) k2⟩) (fun m s hI => by rw [fX6_become_b36, if_pos ((le3 (by omega)).mpr (Nat.le_refl 3))])
  obtain ⟨h2, ⟨J1, J2⟩, E2⟩ := key2 lpF 0 h1 (by omega) (by rw [lpF_eq]; omega) ⟨fun _ _ => rfl, fun t ht => by omega⟩
  have key3 := loop_inv (L := fX6_become_b64 RA w w') (e := 6) (I := fun j s => (∀ q, q < w + 21 ∨ w + 33 ≤ q → s q = h2 q) ∧ ∀ i, i < j → s (w + 21 + 2 * i) 1 = h (w' + 21 + 2 * i) 1 ∧ s (w + 21 + 2 * i) 2 = h (w' + 21 + 2 * i) 2 ∧ ∀ k, k < 8 → s (w + 21 + 2 * i + 1) k = h (w' + 21 + 2 * i + 1) k) (g := fun s => some (up (up (up (up (up s w 4 (s w' 4)) w 5 (s w' 5)) w 6 (s w' 6)) w 7 (s w' 7)) w 8 (s w' 8))) (fun m j s hj hI => by
    obtain ⟨K1, K2⟩ := hI
    obtain ⟨r1, r2, r3⟩ := iw.2.2.2.2.2.2.2.2.2.2.2 j hj
    obtain ⟨q1, q2, q3⟩ := iw'.2.2.2.2.2.2.2.2.2.2.2 j hj
    have es : ∀ q, w' + 21 ≤ q → q < w' + 33 → s q = h q := fun q k1 k2 => by rw [K1 q (by omega), J1 q (by omega), I1 q (by omega), up_ne (by omega)]
    have eQ := es (w' + 21 + 2 * j) (by omega) (by omega)
    have eQ1 := es (w' + 21 + 2 * j + 1) (by omega) (by omega)
    refine ⟨pbH s (w + 21 + 2 * j) (w' + 21 + 2 * j), ?_, fun q hq => (pb_ne (by omega) (by omega)).trans (K1 q hq), fun i hi => ?_⟩
    · rw [fX6_become_b64, if_neg (fun z => by have := (le6 (by omega)).mp z; omega), iw.2.2.1, iw'.2.2.1, iw.2.2.2.2.2.2.2.1, iw'.2.2.2.2.2.2.2.1, gd_in hj (by decide), gd_in hj (by decide), ix_n (by omega), r1, q1, pat_become (by rw [r2]; omega) (by rw [q2]; omega) (by rw [show w + 21 + 2 * j + 1 = w + 22 + 2 * j by omega]; exact r3) (by rw [show w' + 21 + 2 * j + 1 = w' + 22 + 2 * j by omega]; exact q3) (by omega) (by rw [eQ]; exact a9 j hj), Option.bind_some, n_p1]
    · obtain ⟨p1, p2, p3⟩ := pb_rows (h := s) (P := w + 21 + 2 * j) (Q := w' + 21 + 2 * j)
      by_cases e : i = j
      · subst e
        exact ⟨by rw [p1, eQ], by rw [p2, eQ], fun k hk => by rw [p3 k hk, eQ1]⟩
      · rw [pb_ne (by omega) (by omega), pb_ne (by omega) (by omega)]
        exact K2 i (by omega)) (fun m s hI => by
    have nw : w' ≠ w := by omega
    rw [fX6_become_b64, if_pos ((le6 (by omega)).mpr (Nat.le_refl 6))]
    simp only [lt_eq, up_ne nw])
  obtain ⟨h3, ⟨K1, K2⟩, E3⟩ := key3 lpF 0 h2 (by omega) (by rw [lpF_eq]; omega) ⟨fun _ _ => rfl, fun t ht => by omega⟩
  have E : fX6_become h RA w w' = some (up (up (up (up (up h3 w 4 (h3 w' 4)) w 5 (h3 w' 5)) w 6 (h3 w' 6)) w 7 (h3 w' 7)) w 8 (h3 w' 8)) := by
    unfold fX6_become
    rw [lt_eq]
    exact E1.trans (E2.trans E3)
  have ew : ∀ j, j < 4 → up (up (up (up (up h3 w 4 (h3 w' 4)) w 5 (h3 w' 5)) w 6 (h3 w' 6)) w 7 (h3 w' 7)) w 8 (h3 w' 8) w j = h3 w j := fun j hj => by rw [up_at, if_neg (by omega), up_at, if_neg (by omega), up_at, if_neg (by omega), up_at, if_neg (by omega), up_at, if_neg (by omega)]
  have en : ∀ q, q ≠ w → up (up (up (up (up h3 w 4 (h3 w' 4)) w 5 (h3 w' 5)) w 6 (h3 w' 6)) w 7 (h3 w' 7)) w 8 (h3 w' 8) q = h3 q := fun q hq => by rw [up_ne hq, up_ne hq, up_ne hq, up_ne hq, up_ne hq]
  have o3 : h3 w' = h w' := by rw [K1 _ (by omega), J1 _ (by omega), I1 _ (by omega), up_ne (by omega)]
  have f3 : h3 (w + 1) = h1 (w + 1) := by rw [K1 _ (by omega), J1 _ (by omega)]
  refine ⟨_, E, ⟨a1, ?_, fun t ht => ?_, fun t ht => ?_, trs_eq (h := h2) (fun q k1 k2 => (en q (by omega)).trans (K1 q (by omega))) (fun s hs => J2 s hs), a6, ?_, fun i y hi => ?_, fun i hi => ?_, ?_, ?_, ?_, ?_⟩, fun q hq => ?_⟩
  · rw [ew 0 (by decide), K1 _ (by omega), J1 _ (by omega), I1 _ (by omega), up_same]; exact a2
  · rw [en _ (by omega), f3, I2 t ht]; exact a3 t ht
  · rw [en _ (by omega), f3, I2 t (by omega)]; exact a4 t ht
  · rw [up_at, if_neg (by decide), up_at, if_neg (by decide), up_at, if_neg (by decide), up_at, if_neg (by decide), up_same, o3]; exact a7
  · have hl : i < P.length := (List.getElem?_eq_some_iff.mp hi).1
    obtain ⟨v1, v2, v3, v4⟩ := a8 i y hi
    obtain ⟨k1, k2, k3⟩ := K2 i (by omega)
    refine ⟨v1, by rw [en _ (by omega), k1]; exact v2, by rw [en _ (by omega), k2]; exact v3, fun j z hz => ?_⟩
    have hj : j < y.1.length := (List.getElem?_eq_some_iff.mp hz).1
    rw [en _ (by omega), k3 j (by omega)]
    exact v4 j z hz
  · rw [en _ (by omega), (K2 i hi).2.1]; exact a9 i hi
  · rw [up_at, if_neg (by decide), up_at, if_neg (by decide), up_at, if_neg (by decide), up_same, o3]; exact b1
  · rw [up_at, if_neg (by decide), up_at, if_neg (by decide), up_same, o3]; exact b2
  · rw [up_at, if_neg (by decide), up_same, o3]; exact b3
  · rw [up_same, o3]; exact b4
  · rw [en q (by omega), K1 q (by omega), J1 q (by omega), I1 q (by omega), up_ne (by omega)]
