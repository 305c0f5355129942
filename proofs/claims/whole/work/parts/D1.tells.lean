/-! tells -/
def itS (l : List Int32) (t : Nat) : Int32 := (l[t]?).getD 0
def ulS (l : List Int32) (v : TV) : Option Nat := fnd (fun t => !(decide (itS l t = vC v t))) 0 l.length
theorem itS_of {l : List Int32} {g : Nat → Int32} (h : ∀ j y, l[j]? = some y → g j = y) {t : Nat} (ht : t < l.length) : g t = itS l t := h t _ (by unfold itS; rw [List.getElem?_eq_getElem ht]; rfl)
theorem oI_fnd {Q : Nat → Bool} : ∀ (k i : Nat), i + k < 2 ^ 31 → (oI (fnd Q i k) = -1 ↔ fnd Q i k = none)
  | 0, i, _ => ⟨fun _ => rfl, fun _ => rfl⟩
  | k + 1, i, h => by
    unfold fnd
    by_cases e : Q i = true
    · rw [if_pos e]
      exact ⟨fun z => absurd z (m1_ne i (by omega)), fun z => by cases z⟩
    · rw [if_neg e]
      exact oI_fnd k (i + 1) (by omega)
theorem ul_m1 {l : List Int32} {v : TV} (hl : l.length ≤ 40) : oI (ulS l v) = -1 ↔ ulS l v = none := oI_fnd _ _ (by omega)
theorem firstUnlike_a {h : HH} {i T : Nat} {l : List Int32} {v : TV} (hi : i < 4) (hl : l.length ≤ 30) (s3 : h (121 + 2 * i) 1 = nI l.length) (s4 : ∀ j y, l[j]? = some y → h (121 + 2 * i + 1) j = y) (t3 : RA T 3 = T + 4) (tl : lnA (T + 4) = 30) (hv : ∀ t, t < 30 → h (T + 4) t = vC v t) : fX3_firstUnlike h RA (121 + 2 * i) T = some (oI (ulS l v)) := by
  obtain ⟨r1, r2, r3⟩ := A_s i hi
  have key := loop_find (L := fX3_firstUnlike_b2 h RA (121 + 2 * i) T) (P := fun t => !(decide (itS l t = vC v t))) (e := l.length) (g := fun x => some (oI x)) (fun k t ht => by
    rw [fX3_firstUnlike_b2, s3, if_neg (nI_ge ht (by omega)), if_neg (fun z => by have := (le30 (by omega)).mp z; omega), r2, r3, gd_in (show t < 40 by omega) n40, t3, tl, gd_in (show t < 30 by omega) n30, ix_n (show t < 2 ^ 31 by omega), itS_of s4 ht, hv t (by omega), n_p1]
    by_cases e : itS l t = vC v t
    · rw [if_pos e, decide_eq_true e]
      rfl
    · rw [if_neg e, decide_eq_false e]
      rfl) (fun k => by
    rw [fX3_firstUnlike_b2, s3, if_pos (nI_le (Nat.le_refl _) (by omega))]
    rfl) lpF 0 (by omega) (by rw [lpF_eq]; omega)
  unfold fX3_firstUnlike
  rw [l0, key, Nat.sub_zero]
  rfl
theorem otherwise_m {h : HH} {i s n : Nat} {l : List Int32} {v : TV} (hi : i < 4) (hs : s < 3) (hl : l.length ≤ 30) (hn : n ≤ 30) (h0 : h 1 0 = nI n) (hv : avM h s = v) (hN : inN n v) (m3 : h 86 i = nI l.length) (m4 : ∀ j y, l[j]? = some y → h (88 + i) j = y) : fX8_otherwise h RM 1 (nI i) (nI s) = some (oI (ulS l v)) := by
  subst hv
  have key := loop_find (L := fX8_otherwise_b2 h RM 1 (nI i) (nI s)) (P := fun t => !(decide (itS l t = vC (avM h s) t))) (e := l.length) (g := fun x => some (oI x)) (fun k t ht => by
    rw [fX8_otherwise_b2, M_52, ln_86, gd_in hi (by decide), ix_n (show i < 2 ^ 31 by omega), m3, if_neg (nI_ge ht (by omega)), contentOn_m hs (by omega) hn h0 hN, Option.bind_some, M_53, ln_87, gd_in hi (by decide), R_87 i hi, L_87 i hi, gd_in (show t < 40 by omega) n40, ix_n (show t < 2 ^ 31 by omega), itS_of m4 ht, n_p1]
    by_cases e : itS l t = vC (avM h s) t
    · rw [if_pos e.symm, decide_eq_true e]
      rfl
    · rw [if_neg (fun z => e z.symm), decide_eq_false e]
      rfl) (fun k => by
    rw [fX8_otherwise_b2, M_52, ln_86, gd_in hi (by decide), ix_n (show i < 2 ^ 31 by omega), m3, if_pos (nI_le (Nat.le_refl _) (by omega))]
    rfl) lpF 0 (by omega) (by rw [lpF_eq]; omega)
  unfold fX8_otherwise
  rw [l0, key, Nat.sub_zero]
  rfl
theorem vC_no {v : TV} {t : Nat} (h : isIn v t = false) : vC v t = -1 := (vF_no h).2.2
theorem isTarget_m {h : HH} {i first n : Nat} {l : List Int32} {F : Nat → Bool} {V : Nat → TV} {P : List PT} {pr c0 c1 c2 : Int32} (hi : i < 4) (hf : first < 2) (hl : l.length ≤ 30) (hw : wM h (n, F, V, P, pr, c0, c1, c2)) (hwf : ∀ s, s < 3 → wfT n F (V s)) (m3 : h 86 i = nI l.length) (m4 : ∀ j y, l[j]? = some y → h (88 + i) j = y) : ∃ h', fX8_isTarget h RM 1 (nI i) (nI first) = some (b2i (!(ulS l (t5S V P n first).1).isSome), h') ∧ frK h h' ∧ wM h' (n, F, V, P, pr, c0, c1, c2) := by
  obtain ⟨z, b1, b2, b3, b4, b5⟩ := tellTarget_m hf hw hwf
  have z3 : z 86 i = nI l.length := by rw [b2.1 86 (by decide) (by decide)]; exact m3
  have z4 : ∀ j y, l[j]? = some y → z (88 + i) j = y := fun j y hj => by rw [b2.1 (88 + i) (by omega) (by omega)]; exact m4 j y hj
  have st : ∀ (k t : Nat) (s0 : Int32), t < l.length → s0 = vC (t5S V P n first).1 t → fX8_isTarget_b36 RM 1 (nI i) (nI first) (fun h_ z3_ => fX8_isTarget_b7 RM 1 (nI i) (nI first) k h_ z3_) z s0 (nI t) = if (!(decide (itS l t = vC (t5S V P n first).1 t))) = true then some (0, z) else fX8_isTarget_b7 RM 1 (nI i) (nI first) k z (nI (t + 1)) := by
    intro k t s0 ht hs
    rw [fX8_isTarget_b36, M_53, ln_87, gd_in hi (by decide), ix_n (show i < 2 ^ 31 by omega), R_87 i hi, L_87 i hi, gd_in (show t < 40 by omega) n40, ix_n (show t < 2 ^ 31 by omega), itS_of z4 ht, n_p1, hs]
    by_cases e : itS l t = vC (t5S V P n first).1 t
    · rw [if_pos e.symm, decide_eq_true e]
      rfl
    · rw [if_neg (fun z => e z.symm), decide_eq_false e]
      rfl
  have key := loop_find (L := fun k y => fX8_isTarget_b7 RM 1 (nI i) (nI first) k z y) (P := fun t => !(decide (itS l t = vC (t5S V P n first).1 t))) (e := l.length) (g := fun x => some (b2i (!x.isSome), z)) (fun k t ht => by
    show fX8_isTarget_b7 RM 1 (nI i) (nI first) (k + 1) z (nI t) = _
    rw [fX8_isTarget_b7, M_52, ln_86, gd_in hi (by decide), ix_n (show i < 2 ^ 31 by omega), z3, if_neg (nI_ge ht (by omega)), M_30, ln_35, gd_in (show t < 30 by omega) n30, ix_n (show t < 2 ^ 31 by omega), mgM_if b5 (show t < 30 by omega), M_34, ln_39, gd_in (show t < 30 by omega) n30]
    cases hin : isIn (t5S V P n first).1 t with
    | true => rw [if_pos rfl, st k t _ ht (b5.2.2.1 t (by omega) trivial hin)]; rfl
    | false => rw [if_neg (show ¬ (false = true) by decide), st k t _ ht (vC_no hin).symm]; rfl) (fun k => by
    show fX8_isTarget_b7 RM 1 (nI i) (nI first) (k + 1) z (nI l.length) = _
    rw [fX8_isTarget_b7, M_52, ln_86, gd_in hi (by decide), ix_n (show i < 2 ^ 31 by omega), z3, if_pos (nI_le (Nat.le_refl _) (by omega))]
    rfl) lpF 0 (by omega) (by rw [lpF_eq]; omega)
  have key : fX8_isTarget_b7 RM 1 (nI i) (nI first) lpF z (nI 0) = some (b2i (!(ulS l (t5S V P n first).1).isSome), z) := by
    rw [Nat.sub_zero] at key
    exact key
  refine ⟨z, ?_, b2, b3⟩
  unfold fX8_isTarget
  rw [b1, Option.bind_some, l0, key]
def w1S (l : List Int32) (V : Nat → TV) (i : Nat) (x : Int32) : Int32 := if (ulS l (V i)).isSome = true then x else x ||| (1 <<< (nI i &&& 31))
noncomputable def w2S (l : List Int32) (V : Nat → TV) (P : List PT) (n i : Nat) (x : Int32) : Int32 := if (ulS l (t5S V P n i).1).isSome = true then x else x ||| (8 <<< (nI i &&& 31))
noncomputable def wbS (l : List Int32) (V : Nat → TV) (P : List PT) (n : Nat) : Int32 := fld (w2S l V P n) 0 2 (fld (w1S l V) 0 3 0)
theorem ul_some {l : List Int32} {v : TV} (hl : l.length ≤ 30) {α : Type} (a b : α) : (if ¬ oI (ulS l v) = -1 then a else b) = if (ulS l v).isSome = true then a else b := by
  have h := ul_m1 (l := l) (v := v) (by omega)
  cases e : ulS l v with
  | none =>
    rw [e] at h
    rw [if_neg (fun z => z (h.mpr rfl))]
    rfl
  | some k =>
    rw [e] at h
    rw [if_pos (fun z => by cases h.mp z)]
    rfl
theorem i3c {x : Nat} : x < 3 → (3 : Int32) ≤ nI x → False := fun h z => by
  have := (n_le (show (3 : Int32) = nI 3 by decide) (by decide) x (by omega)).mp z
  omega
theorem i2c {x : Nat} : x < 2 → (2 : Int32) ≤ nI x → False := fun h z => by
  have := (n_le (show (2 : Int32) = nI 2 by decide) (by decide) x (by omega)).mp z
  omega
theorem where_a {h : HH} {i n : Nat} {F : Nat → Bool} {V : Nat → TV} {P : List PT} {pr c0 c1 c2 : Int32} {K : Option WS} {tp : List Int32} {S : Nat → SH} (hi : i < 4) (hl : (S i).2.length ≤ 30) (i1 : wfS (n, F, V, P, pr, c0, c1, c2)) (hw : wA h 2 (n, F, V, P, pr, c0, c1, c2)) (hr : reA h K tp S) : ∃ h', fX7_whereJustSo h RA 1 (121 + 2 * i) = some (wbS (S i).2 V P n, h') ∧ wA h' 2 (n, F, V, P, pr, c0, c1, c2) ∧ reA h' K tp S := by
  have hall : ∀ s, s < 3 → wfT n F (V s) := i1.1
  have k1 := loop_fold (L := fun k (s : Int32) y => fX7_whereJustSo_b4 RA 1 (121 + 2 * i) k h s y) (e := 3) (f := w1S (S i).2 V) (g := fun s => fX7_whereJustSo_b40 RA 1 (121 + 2 * i) lpF h s 0) (fun k j s hj => by
    obtain ⟨s1, s2, s3, s4⟩ := hr.2.2.2.2.2 i hi
    obtain ⟨r1, hT⟩ := isW_T (s := j) isW_2 hj
    obtain ⟨u1, u2⟩ := hw.2.2.2.2.1 j hj
    show fX7_whereJustSo_b4 RA 1 (121 + 2 * i) (k + 1) h s (nI j) = _
    rw [fX7_whereJustSo_b4, if_neg (i3c hj), A_10, isW_2.2.1, isW_2.2.2.2.2.2.2.1, gd_in hj (by decide), ix_n (show j < 2 ^ 31 by omega), r1, firstUnlike_a (l := (S i).2) (v := V j) hi hl s3 s4 hT.2.2.2.1 hT.2.2.2.2.2.2.2 (fun t ht => by rw [(cl_rows u2 ht).2.2.2, u1]), Option.bind_some, ul_some hl]
    simp only [fX7_whereJustSo_b32, n_p1, lt_eq]
    unfold w1S
    split <;> rfl) (fun k s => by
    show fX7_whereJustSo_b4 RA 1 (121 + 2 * i) (k + 1) h s (nI 3) = _
    rw [fX7_whereJustSo_b4, if_pos (show (3 : Int32) ≤ nI 3 by decide)]) lpF 0 0 (by omega) (by rw [lpF_eq]; omega)
  have k1 : fX7_whereJustSo_b4 RA 1 (121 + 2 * i) lpF h 0 (nI 0) = fX7_whereJustSo_b40 RA 1 (121 + 2 * i) lpF h (fld (w1S (S i).2 V) 0 3 0) 0 := k1
  obtain ⟨⟨h', x'⟩, ⟨q1, q2, q3⟩, k2⟩ := loop_rel (L := fun k (s : HH × Int32) y => fX7_whereJustSo_b40 RA 1 (121 + 2 * i) k s.1 s.2 y) (e := 2) (f := w2S (S i).2 V P n) (R := fun _ s x => s.2 = x ∧ wA s.1 2 (n, F, V, P, pr, c0, c1, c2) ∧ reA s.1 K tp S) (g := fun s => some (s.2, s.1)) (fun k j s x hj hR => by
    obtain ⟨z, b⟩ := s
    obtain ⟨e1, e2, e3⟩ := hR
    have e1 : b = x := e1
    have e2 : wA z 2 (n, F, V, P, pr, c0, c1, c2) := e2
    have e3 : reA z K tp S := e3
    subst e1
    obtain ⟨z', a1, a2, a3, a4, a5⟩ := settle_a w268_2 hj e2 hall
    have e4 := reA_C a2 e3
    obtain ⟨s1, s2, s3, s4⟩ := e4.2.2.2.2.2 i hi
    refine ⟨(z', w2S (S i).2 V P n j b), ?_, rfl, a3, e4⟩
    show fX7_whereJustSo_b40 RA 1 (121 + 2 * i) (k + 1) z b (nI j) = fX7_whereJustSo_b40 RA 1 (121 + 2 * i) k z' (w2S (S i).2 V P n j b) (nI (j + 1))
    have hsh : (1 : Int32) <<< ((3 + nI j) &&& 31) = 8 <<< (nI j &&& 31) := by
      have cj : j = 0 ∨ j = 1 := by omega
      rcases cj with rfl | rfl <;> decide
    rw [fX7_whereJustSo_b40, if_neg (i2c hj), A_15, A_10, a1, Option.bind_some, G_3, firstUnlike_a (l := (S i).2) (v := (t5S V P n j).1) hi hl s3 s4 G_g.2.2.1 G_g.2.2.2.2.2 (fun t ht => (mgA_rows a5 ht).2.2), Option.bind_some, ul_some hl, hsh]
    simp only [fX7_whereJustSo_b80, n_p1, lt_eq]
    unfold w2S
    split <;> rfl) (fun k s x hR => by
    show fX7_whereJustSo_b40 RA 1 (121 + 2 * i) (k + 1) s.1 s.2 (nI 2) = _
    rw [fX7_whereJustSo_b40, if_pos (show (2 : Int32) ≤ nI 2 by decide)]) lpF (h, fld (w1S (S i).2 V) 0 3 0) (fld (w1S (S i).2 V) 0 3 0) (by rw [lpF_eq]; omega) ⟨rfl, hw, hr⟩
  have q1 : x' = wbS (S i).2 V P n := q1
  have k2 : fX7_whereJustSo_b40 RA 1 (121 + 2 * i) lpF h (fld (w1S (S i).2 V) 0 3 0) (nI 0) = some (x', h') := k2
  refine ⟨h', ?_, q2, q3⟩
  unfold fX7_whereJustSo
  rw [← l0] at k1 k2
  rw [k1, k2, q1]
theorem where_m {h : HH} {i n : Nat} {F : Nat → Bool} {V : Nat → TV} {P : List PT} {pr c0 c1 c2 : Int32} {K : Option WS} {tp : List Int32} {S : Nat → SH} (a2 a3 : Int32) (hi : i < 4) (hl : (S i).2.length ≤ 30) (i1 : wfS (n, F, V, P, pr, c0, c1, c2)) (hw : wM h (n, F, V, P, pr, c0, c1, c2)) (hr : reM h K tp S) : ∃ h', fX8_tells_b69 RM 1 (nI i) a2 a3 lpF h 0 0 = some (wbS (S i).2 V P n, h') ∧ wM h' (n, F, V, P, pr, c0, c1, c2) ∧ reM h' K tp S := by
  have hall : ∀ s, s < 3 → wfT n F (V s) := i1.1
  have hn : n ≤ 30 := hw.1
  have hN := allW_N i1.1
  have k1 := loop_fold (L := fun k (s : Int32) y => fX8_tells_b69 RM 1 (nI i) a2 a3 k h s y) (e := 3) (f := w1S (S i).2 V) (g := fun s => fX8_tells_b104 RM 1 (nI i) a2 a3 lpF h s 0) (fun k j s hj => by
    obtain ⟨s1, s2, s3, s4⟩ := hr.2.2.2.2 i hi
    show fX8_tells_b69 RM 1 (nI i) a2 a3 (k + 1) h s (nI j) = _
    rw [fX8_tells_b69, if_neg (i3c hj), otherwise_m (l := (S i).2) (v := V j) hi hj hl hn hw.2.1 (hw.2.2.2.1 j hj) (hN j hj) s3 s4, Option.bind_some, ul_some hl]
    simp only [fX8_tells_b95, n_p1, lt_eq]
    unfold w1S
    split <;> rfl) (fun k s => by
    show fX8_tells_b69 RM 1 (nI i) a2 a3 (k + 1) h s (nI 3) = _
    rw [fX8_tells_b69, if_pos (show (3 : Int32) ≤ nI 3 by decide)]) lpF 0 0 (by omega) (by rw [lpF_eq]; omega)
  have k1 : fX8_tells_b69 RM 1 (nI i) a2 a3 lpF h 0 (nI 0) = fX8_tells_b104 RM 1 (nI i) a2 a3 lpF h (fld (w1S (S i).2 V) 0 3 0) 0 := k1
  obtain ⟨⟨h', x'⟩, ⟨q1, q2, q3⟩, k2⟩ := loop_rel (L := fun k (s : HH × Int32) y => fX8_tells_b104 RM 1 (nI i) a2 a3 k s.1 s.2 y) (e := 2) (f := w2S (S i).2 V P n) (R := fun _ s x => s.2 = x ∧ wM s.1 (n, F, V, P, pr, c0, c1, c2) ∧ reM s.1 K tp S) (g := fun s => some (s.2, s.1)) (fun k j s x hj hR => by
    obtain ⟨z, b⟩ := s
    obtain ⟨e1, e2, e3⟩ := hR
    have e1 : b = x := e1
    have e2 : wM z (n, F, V, P, pr, c0, c1, c2) := e2
    have e3 : reM z K tp S := e3
    subst e1
    obtain ⟨s1, s2, s3, s4⟩ := e3.2.2.2.2 i hi
    obtain ⟨z', a1, a2', a3'⟩ := isTarget_m hi hj hl e2 hall s3 s4
    refine ⟨(z', w2S (S i).2 V P n j b), ?_, rfl, a3', reM_frK a2' e3⟩
    show fX8_tells_b104 RM 1 (nI i) a2 a3 (k + 1) z b (nI j) = fX8_tells_b104 RM 1 (nI i) a2 a3 k z' (w2S (S i).2 V P n j b) (nI (j + 1))
    rw [fX8_tells_b104, if_neg (i2c hj), a1, bi2_eq, b2i_if]
    simp only [fX8_tells_b130, n_p1, lt_eq]
    unfold w2S
    cases (ulS (S i).2 (t5S V P n j).1).isSome <;> rfl) (fun k s x hR => by
    show fX8_tells_b104 RM 1 (nI i) a2 a3 (k + 1) s.1 s.2 (nI 2) = _
    rw [fX8_tells_b104, if_pos (show (2 : Int32) ≤ nI 2 by decide)]) lpF (h, fld (w1S (S i).2 V) 0 3 0) (fld (w1S (S i).2 V) 0 3 0) (by rw [lpF_eq]; omega) ⟨rfl, hw, hr⟩
  have q1 : x' = wbS (S i).2 V P n := q1
  have k2 : fX8_tells_b104 RM 1 (nI i) a2 a3 lpF h (fld (w1S (S i).2 V) 0 3 0) (nI 0) = some (x', h') := k2
  refine ⟨h', ?_, q2, q3⟩
  rw [← l0] at k1 k2
  rw [k1, k2, q1]
theorem s_tells : S_tells Inv := by
  rintro hA hM I0 a b c
  have I1 := I0
  obtain ⟨⟨n, F, V, P, pr, c0, c1, c2⟩, K, tp, S, i1, i2, i3, i4, i5, i6, i7⟩ := I0
  have hN := allW_N i1.1
  have hn : n ≤ 30 := i4.1
  have g3 : ∀ x y : Option (Int32 × HH), (if c < 0 then x else if c ≤ 1 then y else x) = if thB 2 c = true then y else x := fun x y => gate_le (k := 1) (by decide) c x y
  have k3 : (!(decide (c < 0)) && !(decide (1 < c))) = thB 2 c := in_k (k := 1) (by decide) c
  unfold fX7_tells fX8_tells
  rw [isSheet_a, isSheet_m, isTree_a, isPlace_m, in_m, k3]
  simp only [Option.bind_some, b2i_if, b2i_ifn]
  rw [g3]
  cases ha : shB a with
  | false => exact ⟨-2, hA, hM, rfl, rfl, I1⟩
  | true =>
  rw [if_pos rfl, if_pos rfl]
  cases hb : trB b with
  | false => exact ⟨-2, hA, hM, rfl, rfl, I1⟩
  | true =>
  rw [if_pos rfl, if_pos rfl]
  cases hc : thB 2 c with
  | false => exact ⟨-2, hA, hM, rfl, rfl, I1⟩
  | true =>
  rw [if_pos rfl, if_pos rfl]
  obtain ⟨i, hi, rfl⟩ := shB_n ha
  obtain ⟨s, hs, rfl⟩ := trB_n hb
  obtain ⟨r1, r2, r3⟩ := A_s i hi
  obtain ⟨s1, s2, s3, s4⟩ := i6.2.2.2.2.2 i hi
  obtain ⟨m1, m2, m3, m4⟩ := i7.2.2.2.2 i hi
  rw [A_17, A_120, gd_in hi (by decide), ix_n (show i < 2 ^ 31 by omega), r1, isMissing_a, Option.bind_some, b2i_if, s2, s3, M_51, ln_85, gd_in hi (by decide), m2, M_52, ln_86, gd_in hi (by decide), m3]
  by_cases ne : (S i).1 = -1
  · rw [if_pos (decide_eq_true ne), if_neg (show ¬ (0 : Int32) ≤ (S i).1 by rw [ne]; decide)]
    exact ⟨_, hA, hM, rfl, rfl, I1⟩
  · rw [if_neg (fun z => ne (of_decide_eq_true z)), if_pos ((le_neg _).mpr (fun z => ne ((so_neg (i3 i hi)).mp z)))]
    by_cases hl : (S i).2.length ≤ 30
    · have hle : nI (S i).2.length ≤ 30 := by rw [l30]; exact nI_le hl n30
      rw [if_pos hle, if_pos hle]
      by_cases c9 : c = 0
      · rw [if_neg (fun z => z c9), if_neg (fun z => z c9)]
        obtain ⟨t1, hT⟩ := isW_T (s := s) isW_2 hs
        obtain ⟨u1, u2⟩ := i4.2.2.2.2.1 s hs
        rw [A_10, isW_2.2.1, isW_2.2.2.2.2.2.2.1, gd_in hs (by decide), ix_n (show s < 2 ^ 31 by omega), t1, firstUnlike_a (l := (S i).2) (v := V s) hi hl s3 s4 hT.2.2.2.1 hT.2.2.2.2.2.2.2 (fun t ht => by rw [(cl_rows u2 ht).2.2.2, u1]), otherwise_m (l := (S i).2) (v := V s) hi hs hl hn i5.2.1 (i5.2.2.2.1 s hs) (hN s hs) m3 m4, Option.bind_some, Option.bind_some]
        exact ⟨_, hA, hM, rfl, rfl, I1⟩
      · rw [if_pos c9, if_pos c9]
        obtain ⟨hA', k1, k2, k3⟩ := where_a hi hl i1 i4 i6
        obtain ⟨hM', f1, f2, f3⟩ := where_m (nI s) c hi hl i1 i5 i7
        rw [k1, bi2_eq, f1]
        exact ⟨_, hA', hM', rfl, rfl, _, K, tp, S, i1, i2, i3, k2, f2, k3, f3⟩
    · have hle : ¬ nI (S i).2.length ≤ 30 := fun z => hl (by rw [l30] at z; exact (nI_leI (by omega) n30).mp z)
      rw [if_neg hle, if_neg hle]
      exact ⟨_, hA, hM, rfl, rfl, I1⟩
