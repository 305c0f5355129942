/-! who is ignored by patterns -/
def igX (M : Nat → Nat → Bool) (N : Nat → Bool) (np len inn : Nat) (b : Bool) : Prop :=
  (inn = 0 ∧ b = false ∧ ∀ q, q < np → ∀ i, 0 < i → i ≤ len → M q i = false) ∨ (0 < inn ∧ inn ≤ len ∧ ∃ q, q < np ∧ M q inn = true ∧ b = !(N q) ∧ (∀ q', q < q' → q' < np → M q' inn = false) ∧ ∀ q', q' < np → ∀ i, inn < i → i ≤ len → M q' i = false)
def igR (M : Nat → Nat → Bool) (N : Nat → Bool) (np len : Nat) (b : Bool) : Prop := ∃ inn, igX M N np len inn b
theorem igR_one {M : Nat → Nat → Bool} {N : Nat → Bool} {np len : Nat} {b c : Bool} (h1 : igR M N np len b) (h2 : igR M N np len c) : b = c := by
  obtain ⟨i, h1⟩ := h1
  obtain ⟨j, h2⟩ := h2
  rcases h1 with ⟨-, hb, h1⟩ | ⟨i1, i2, q, q1, q2, q3, q4, q5⟩ <;> rcases h2 with ⟨-, hc, h2⟩ | ⟨j1, j2, p, p1, p2, p3, p4, p5⟩
  · rw [hb, hc]
  · rw [h1 p p1 j j1 j2] at p2; cases p2
  · rw [h2 q q1 i i1 i2] at q2; cases q2
  · have e1 : ¬ i < j := fun z => by rw [q5 p p1 j z j2] at p2; cases p2
    have e2 : ¬ j < i := fun z => by rw [p5 q q1 i z i2] at q2; cases q2
    have e : i = j := by omega
    subst e
    have e3 : ¬ q < p := fun z => by rw [q4 p z p1] at p2; cases p2
    have e4 : ¬ p < q := fun z => by rw [p4 q z q1] at q2; cases q2
    have e : p = q := by omega
    subst e
    rw [q3, p3]
noncomputable def igB (M : Nat → Nat → Bool) (N : Nat → Bool) (np len : Nat) : Bool := @decide (igR M N np len true) (Classical.propDecidable _)
theorem igB_of {M : Nat → Nat → Bool} {N : Nat → Bool} {np len : Nat} {b : Bool} (h : igR M N np len b) : igB M N np len = b := by
  unfold igB
  cases b with
  | true => exact @decide_eq_true _ (Classical.propDecidable _) h
  | false => exact @decide_eq_false _ (Classical.propDecidable _) (fun z => by cases igR_one h z)
def pq (P : List PT) (q : Nat) : PT := P.getD q ([], false)
theorem pq_in {P : List PT} {q : Nat} (h : q < P.length) : P[q]? = some (pq P q) := by
  unfold pq
  rw [List.getD_eq_getElem?_getD, List.getElem?_eq_getElem h]
  rfl
noncomputable def ignT (P : List PT) (v : TV) (t : Nat) : Bool := igB (fun q i => mtP (nmR v t) (pq P q) i) (fun q => (pq P q).2) P.length (plen v t)
theorem nI_le0 {a : Nat} (h : a < 2 ^ 31) : nI a ≤ 0 ↔ a = 0 := by
  constructor
  · intro z
    have := (nI_leI h (show 0 < 2 ^ 31 by decide)).mp (by rw [← l0]; exact z)
    omega
  · intro z; subst z; decide
theorem isIgnoredThere_a {h : HH} {w s t n : Nat} {F : Nat → Bool} {V : Nat → TV} {P : List PT} {pr c0 c1 c2 : Int32} (iw : isW w) (hw : wA h w (n, F, V, P, pr, c0, c1, c2)) (hs : s < 3) (hwf : wfT n F (V s)) (ht : t < 30) : ∃ h', fX6_isIgnoredThere h RA w (nI s) (nI t) = some (b2i (isIn (V s) t && ignT P (V s) t), h') ∧ ∀ q, q ≠ w + 4 → h' q = h q := by
  obtain ⟨a1, a2, a3, a4, a5, a6, a7, a8, a9, b1, b2, b3, b4⟩ := hw
  obtain ⟨r1, hT⟩ := isW_T (s := s) iw hs
  obtain ⟨u1, u2⟩ := a5 s hs
  obtain ⟨w1, w2, w3, w9, w10, m1, m2, m3, m4, m5, mT, mP⟩ := iw
  unfold fX6_isIgnoredThere
  rw [w2, m2, gd_in hs (by decide), ix_n (show s < 2 ^ 31 by omega), r1, a7]
  by_cases h0 : P.length = 0
  · rw [if_pos (by rw [h0]; rfl)]
    refine ⟨h, ?_, fun _ _ => rfl⟩
    have : ignT P (V s) t = false := igB_of ⟨0, Or.inl ⟨rfl, rfl, fun q hq => by omega⟩⟩
    rw [this, Bool.and_false]
    rfl
  rw [if_neg (nI_ne0 (by omega) (by omega)), has_n hT ht, Option.bind_some, u1, b2i_ifn]
  cases hin : isIn (V s) t with
  | false => exact ⟨h, rfl, fun _ _ => rfl⟩
  | true =>
  rw [if_pos rfl, w9]
  obtain ⟨h1, e1, e2, e3⟩ := pathOf_a (P := w + 4) hT m4 (by omega) (by rw [u1]; exact hin) (by rw [u1]; exact hwf)
  rw [u1] at e1 e3
  rw [e1, bi2_eq]
  refine ⟨h1, ?_, e2⟩
  have hlen : plen (V s) t ≤ 30 := plen_le
  have hfit : ∀ i, i < P.length → fX1_longestFit h1 RA (w + 21 + 2 * i) (w + 4) (nI (plen (V s) t)) = some (nI (lgS (mtP (nmR (V s) t) (pq P i)) (plen (V s) t))) := by
    intro i hi
    obtain ⟨p1, p2, p3, p4⟩ := a8 i _ (pq_in hi)
    obtain ⟨q1, q2, q3⟩ := mP i (by omega)
    rw [longestFit_a (size := (pq P i).1.length) (by rw [q2]; omega) (by rw [show w + 21 + 2 * i + 1 = w + 22 + 2 * i by omega]; exact q3) m4 p1 (by rw [e2 _ (by omega)]; exact p2) hlen]
    congr 2
    refine lgS_congr (fun k _ hk => mtP_of (fun j z hz => ?_) (fun j hj => e3 j (by omega)))
    rw [e2 _ (by omega)]
    exact p4 j z hz
  have key := loop_inv (L := fun k (z : Int32 × Int32) y => fX6_isIgnoredThere_b44 RA w (nI s) (nI t) k h1 (nI (plen (V s) t)) z.1 z.2 y) (e := P.length) (I := fun i z => ∃ inn b, z.1 = nI inn ∧ inn ≤ plen (V s) t ∧ z.2 = b2i b ∧ igX (fun q i => mtP (nmR (V s) t) (pq P q) i) (fun q => (pq P q).2) i (plen (V s) t) inn b) (g := fun z => some (z.2, h1)) (fun k i z hi hI => by
    obtain ⟨inn, b, z1, zl, z2, hX⟩ := hI
    obtain ⟨q1, q2, q3⟩ := mP i (by omega)
    have e4 : h1 w 4 = nI P.length := by rw [e2 w (by omega)]; exact a7
    have eN : h1 (w + 21 + 2 * i) 2 = b2i (pq P i).2 := by rw [e2 _ (by omega)]; exact (a8 i _ (pq_in hi)).2.2.1
    have l6 : ¬ (6 : Int32) ≤ nI i := fun z => by
      have := (n_le (show (6 : Int32) = nI 6 by decide) (by decide) i (by omega)).mp z
      omega
    have hfl := lgS_le (M := mtP (nmR (V s) t) (pq P i)) (plen (V s) t)
    have head : fX6_isIgnoredThere_b44 RA w (nI s) (nI t) (k + 1) h1 (nI (plen (V s) t)) z.1 z.2 (nI i) = if nI (lgS (mtP (nmR (V s) t) (pq P i)) (plen (V s) t)) ≤ 0 then fX6_isIgnoredThere_b44 RA w (nI s) (nI t) k h1 (nI (plen (V s) t)) z.1 z.2 (nI (i + 1)) else if nI (lgS (mtP (nmR (V s) t) (pq P i)) (plen (V s) t)) < nI inn then fX6_isIgnoredThere_b44 RA w (nI s) (nI t) k h1 (nI (plen (V s) t)) z.1 z.2 (nI (i + 1)) else fX6_isIgnoredThere_b44 RA w (nI s) (nI t) k h1 (nI (plen (V s) t)) (nI (lgS (mtP (nmR (V s) t) (pq P i)) (plen (V s) t))) (b2i (!(pq P i).2)) (nI (i + 1)) := by
      rw [fX6_isIgnoredThere_b44, e4, if_neg (nI_ge hi (by omega)), if_neg l6, w3, m3, gd_in (show i < 6 by omega) (by decide), ix_n (show i < 2 ^ 31 by omega), q1, w9, hfit i hi, Option.bind_some, z1]
      simp only [fX6_isIgnoredThere_b114, fX6_isIgnoredThere_b112, n_p1, eN, gd_in (show i < 6 by omega) (show 6 < 2 ^ 31 by decide)]
      rw [b2i_ifn]
      cases (pq P i).2 <;> rfl
    by_cases c1 : lgS (mtP (nmR (V s) t) (pq P i)) (plen (V s) t) = 0
    · have hz : ∀ j, 0 < j → j ≤ plen (V s) t → mtP (nmR (V s) t) (pq P i) j = false := fun j j1 j2 => lgS_max (by rw [c1]; exact j1) j2
      refine ⟨z, ?_, inn, b, z1, zl, z2, ?_⟩
      · show fX6_isIgnoredThere_b44 RA w (nI s) (nI t) (k + 1) h1 (nI (plen (V s) t)) z.1 z.2 (nI i) = _
        rw [head, if_pos ((nI_le0 (by omega)).mpr c1)]
      · rcases hX with ⟨x1, x2, x3⟩ | ⟨x1, x2, q, y1, y2, y3, y4, y5⟩
        · refine Or.inl ⟨x1, x2, fun q hq j j1 j2 => ?_⟩
          by_cases e : q = i
          · rw [e]; exact hz j j1 j2
          · exact x3 q (by omega) j j1 j2
        · refine Or.inr ⟨x1, x2, q, by omega, y2, y3, fun q' h1 h2 => ?_, fun q' h1 j j1 j2 => ?_⟩
          · by_cases e : q' = i
            · rw [e]; exact hz inn x1 x2
            · exact y4 q' h1 (by omega)
          · by_cases e : q' = i
            · rw [e]; exact hz j (by omega) j2
            · exact y5 q' (by omega) j j1 j2
    by_cases c2 : lgS (mtP (nmR (V s) t) (pq P i)) (plen (V s) t) < inn
    · refine ⟨z, ?_, inn, b, z1, zl, z2, ?_⟩
      · show fX6_isIgnoredThere_b44 RA w (nI s) (nI t) (k + 1) h1 (nI (plen (V s) t)) z.1 z.2 (nI i) = _
        rw [head, if_neg (fun z => c1 ((nI_le0 (by omega)).mp z)), if_pos (nI_lt c2 (by omega))]
      · rcases hX with ⟨x1, x2, x3⟩ | ⟨x1, x2, q, y1, y2, y3, y4, y5⟩
        · omega
        · refine Or.inr ⟨x1, x2, q, by omega, y2, y3, fun q' h1 h2 => ?_, fun q' h1 j j1 j2 => ?_⟩
          · by_cases e : q' = i
            · rw [e]; exact lgS_max c2 x2
            · exact y4 q' h1 (by omega)
          · by_cases e : q' = i
            · rw [e]; exact lgS_max (by omega) j2
            · exact y5 q' (by omega) j j1 j2
    · refine ⟨(nI (lgS (mtP (nmR (V s) t) (pq P i)) (plen (V s) t)), b2i (!(pq P i).2)), ?_, _, _, rfl, hfl, rfl, Or.inr ⟨by omega, hfl, i, by omega, lgS_is (by omega), rfl, fun q' h1 h2 => by omega, fun q' h1 j j1 j2 => ?_⟩⟩
      · show fX6_isIgnoredThere_b44 RA w (nI s) (nI t) (k + 1) h1 (nI (plen (V s) t)) z.1 z.2 (nI i) = _
        rw [head, if_neg (fun z => c1 ((nI_le0 (by omega)).mp z)), if_neg (fun z => c2 ((nI_ltI (by omega) (by omega)).mp z))]
      · by_cases e : q' = i
        · rw [e]; exact lgS_max j1 j2
        · rcases hX with ⟨x1, x2, x3⟩ | ⟨x1, x2, q, y1, y2, y3, y4, y5⟩
          · exact x3 q' (by omega) j (by omega) j2
          · exact y5 q' (by omega) j (by omega) j2) (fun k z hI => by
    obtain ⟨inn, b, z1, zl, z2, hX⟩ := hI
    have e4 : h1 w 4 = nI P.length := by rw [e2 w (by omega)]; exact a7
    show fX6_isIgnoredThere_b44 RA w (nI s) (nI t) (k + 1) h1 (nI (plen (V s) t)) z.1 z.2 (nI P.length) = _
    rw [fX6_isIgnoredThere_b44, e4, if_pos (nI_le (Nat.le_refl _) (by omega)), z2, bz_t (b2i_01 _)])
  obtain ⟨z, ⟨inn, b, z1, zl, z2, hX⟩, E⟩ := key lpF 0 (0, 0) (by omega) (by rw [lpF_eq]; omega) ⟨0, false, rfl, Nat.zero_le _, rfl, Or.inl ⟨rfl, rfl, fun q hq => by omega⟩⟩
  have E : fX6_isIgnoredThere_b44 RA w (nI s) (nI t) lpF h1 (nI (plen (V s) t)) 0 0 (nI 0) = some (z.2, h1) := E
  rw [← l0] at E
  have hb : ignT P (V s) t = b := igB_of ⟨inn, hX⟩
  rw [E, z2, hb, Bool.true_and]
