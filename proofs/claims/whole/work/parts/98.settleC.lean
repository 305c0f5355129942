/-! rings and names on the class; its settle -/
theorem inS_isIn {v : TV} {t : Nat} {a : Int32} (h : inS v t a = true) : isIn v t = true := by
  unfold inS at h
  unfold isIn
  cases e : v t with
  | none => rw [e] at h; cases h
  | some x => rfl
theorem n_m1 (m : Nat) : nI m + (-1) = nI m - 1 := (Int32.sub_eq_add_neg _ _).symm
theorem grt_s {P : Nat → Bool} {k : Nat} : grt P (k + 1) = if P k = true then some k else grt P k := rfl
theorem greatest_b {h : HH} {x : T3} (hm : mgA h x) : ∀ (m k : Nat), m ≤ 30 → m < k → fX0_greatestInRing_b3 h RA 103 k (nI m - 1) = some (oI (grt (fun t => inS x.1 t (nI t)) m)) := by
  intro m
  induction m with
  | zero =>
    intro k _ hk
    obtain ⟨k, rfl⟩ : ∃ z, k = z + 1 := ⟨k - 1, by omega⟩
    rw [fX0_greatestInRing_b3, if_pos (show nI 0 - 1 < 0 by decide)]
    rfl
  | succ m ih =>
    intro k hm2 hk
    obtain ⟨k, rfl⟩ : ∃ z, k = z + 1 := ⟨k - 1, by omega⟩
    rw [fX0_greatestInRing_b3, nI_pred, if_neg (n_lt0 m (by omega)), G_3, isInner_n isT_108 (by omega), Option.bind_some, hm.1, b2i_if, n_m1, ih k (by omega) (by omega)]
    rw [grt_s]
    cases inS x.1 m (nI m) <;> rfl
theorem greatest_a {h : HH} {x : T3} (hm : mgA h x) : fX0_greatestInRing h RA 103 = some (oI (ringS x.1)) := by
  have := greatest_b hm 30 lpF (Nat.le_refl _) (by rw [lpF_eq]; omega)
  have e : nI 30 - 1 = 29 := by decide
  rw [e] at this
  exact this
theorem mdS_one {r : Nat} {x : T3} {t : Nat} (h : ringS x.1 = some t) : mdS (r + 1) x = mdS r (cutS x.1 t, x.2.1, x.2.2 ++ [(4, t)]) := by
  rw [mdS, h]
theorem mdS_no {r : Nat} {x : T3} (h : ringS x.1 = none) : mdS r x = x := by
  cases r with
  | zero => rfl
  | succ r => rw [mdS, h]
theorem rings_b {h : HH} : ∀ (r k j : Nat) (z : HH) (x : T3), j + r = 30 → r < k → frD h z → mgA z x → x.2.2.length ≤ 90 + j → ∃ z', fX0_mendRings_b2 RA 103 k z (nI j) = some z' ∧ frD h z' ∧ mgA z' (mdS r x) ∧ (mdS r x).2.2.length ≤ 120 ∧ (mdS r x).2.1 = x.2.1 := by
  intro r
  induction r with
  | zero =>
    intro k j z x hj hk hf hm hl
    obtain ⟨k, rfl⟩ : ∃ z, k = z + 1 := ⟨k - 1, by omega⟩
    refine ⟨z, ?_, hf, hm, by show x.2.2.length ≤ 120; omega, rfl⟩
    rw [fX0_mendRings_b2, if_pos ((le30 (by omega)).mpr (by omega))]
  | succ r ih =>
    intro k j z x hj hk hf hm hl
    obtain ⟨k, rfl⟩ : ∃ z, k = z + 1 := ⟨k - 1, by omega⟩
    rw [fX0_mendRings_b2, if_neg (fun z => by have := (le30 (by omega)).mp z; omega), greatest_a hm, Option.bind_some]
    cases hr : ringS x.1 with
    | none =>
      rw [if_neg (fun z => z rfl), mdS_no hr]
      exact ⟨z, rfl, hf, hm, by omega, rfl⟩
    | some t =>
      obtain ⟨ht, hin⟩ := grt_some hr
      obtain ⟨k1, k2, k3, k4, k5, k6⟩ := G_g
      obtain ⟨w1, w2, w3⟩ := mgA_rows hm ht
      obtain ⟨G, tot, C⟩ := x
      have hl : C.length ≤ 90 + j := hl
      obtain ⟨m1, m2⟩ := mgA_cols (h' := up z 110 t (-1)) (a := -1) (b := vN G t) (c := vC G t) ht hm (inS_isIn hin) (fun q q1 q2 q3 => by rw [up_ne q1]) (fun j => by rw [up_at]) (fun j => by rw [up_ne (by decide)]; exact up_cols (G := fun t => vN G t) w2) (fun j => by rw [up_ne (by decide)]; exact up_cols (G := fun t => vC G t) w3)
      obtain ⟨zc, q1, q2, q3⟩ := mgA_clash m1 (show C.length < 150 by omega) 4 t
      have e9 : oI (some t) = nI t := rfl
      rw [if_pos (oI_ne (by omega)), e9, G_3, k1, k4, gd_in ht n30, lt_eq, ix_n (show t < 2 ^ 31 by omega), q1, Option.bind_some, n_p1, mdS_one hr]
      exact ih k (j + 1) zc _ (by omega) (by omega) (frD_trans hf (frD_trans m2 q3)) q2 (by show (C ++ [((4 : Int32), t)]).length ≤ 90 + (j + 1); simp; omega)
theorem anyN_iff {n : Nat} {P : Nat → Bool} : anyN n P = true ↔ ∃ t, t < n ∧ P t = true := by
  unfold anyN
  constructor
  · intro h
    cases e : fnd P 0 n with
    | none => rw [e] at h; cases h
    | some t =>
      have := fnd_lt e
      exact ⟨t, by omega, this.2.2⟩
  · rintro ⟨t, h1, h2⟩
    cases e : fnd P 0 n with
    | some _ => rfl
    | none =>
      exfalso
      have key : ∀ (k i : Nat), fnd P i k = none → ∀ j, i ≤ j → j < i + k → P j = false := by
        intro k
        induction k with
        | zero => intro i _ j h1 h2; omega
        | succ k ih =>
          intro i hn j h1 h2
          unfold fnd at hn
          by_cases hp : P i = true
          · rw [if_pos hp] at hn; cases hn
          · rw [if_neg hp] at hn
            by_cases ej : j = i
            · rw [ej]; simpa using hp
            · exact ih (i + 1) hn j (by omega) (by omega)
      rw [key n 0 e t (by omega) (by omega)] at h2
      cases h2
theorem bool_ext {a b : Bool} (h : a = true ↔ b = true) : a = b := by
  cases a <;> cases b <;> simp at h ⊢
noncomputable def igHs (V : Nat → TV) (P : List PT) (n s : Nat) (f nm : Int32) : Bool := anyN n (fun t => igA V P t && isAtS (V s) t f nm)
theorem igH_s {V : Nat → TV} {P : List PT} {n : Nat} {F : Nat → Bool} {f nm : Int32} (hn : n ≤ 30) (hw : ∀ s, s < 3 → wfT n F (V s)) : igH V P f nm = (igHs V P n 0 f nm || (igHs V P n 1 f nm || igHs V P n 2 f nm)) := by
  apply bool_ext
  unfold igH igHs
  simp only [Bool.or_eq_true, anyN_iff, Bool.and_eq_true]
  constructor
  · rintro ⟨t, h1, h2, h3⟩
    have ht := igA_lt hw h2
    rcases h3 with h3 | h3 | h3
    · exact Or.inl ⟨t, ht, h2, h3⟩
    · exact Or.inr (Or.inl ⟨t, ht, h2, h3⟩)
    · exact Or.inr (Or.inr ⟨t, ht, h2, h3⟩)
  · rintro (⟨t, h1, h2, h3⟩ | ⟨t, h1, h2, h3⟩ | ⟨t, h1, h2, h3⟩)
    · exact ⟨t, by omega, h2, Or.inl h3⟩
    · exact ⟨t, by omega, h2, Or.inr (Or.inl h3)⟩
    · exact ⟨t, by omega, h2, Or.inr (Or.inr h3)⟩
theorem igHas_s {h : HH} {w n first : Nat} {V : Nat → TV} {P : List PT} (ww : w268 w) (hn : n ≤ 30) (c : ctxA h w n V P first) (f nm : Int32) (k2 : Int32 → Option Int32) {s : Nat} (hs : s < 3) : fX0_ignoredHas_b21 h RA 103 f nm k2 lpF (nI s) (w + 6 + 5 * s) 0 = if igHs V P n s f nm = true then some 1 else k2 (nI (s + 1)) := by
  obtain ⟨cx, ⟨c2, c3⟩, c4, c5⟩ := c
  obtain ⟨r1, hT⟩ := isW_T (s := s) ww.2 hs
  have key := loop_find (L := fun k y => fX0_ignoredHas_b21 h RA 103 f nm k2 k (nI s) (w + 6 + 5 * s) y) (P := fun t => igA V P t && isAtS (V s) t f nm) (e := n) (g := fun x => if x.isSome = true then some 1 else k2 (nI (s + 1))) (fun k i hi => by
    show fX0_ignoredHas_b21 h RA 103 f nm k2 (k + 1) (nI s) (w + 6 + 5 * s) (nI i) = _
    rw [fX0_ignoredHas_b21, cx.1, gwd_w ww.1, c5, if_neg (nI_ge hi (by omega)), G_1, Gl_104, gd_in (show i < 30 by omega) n30, ix_n (show i < 2 ^ 31 by omega), c2 i (by omega), b2i_if, isAt_n hT (by omega), Option.bind_some, (cx.2 s hs).1, b2i_if]
    simp only [fX0_ignoredHas_b57, n_p1]
    cases igA V P i <;> cases isAtS (V s) i f nm <;> rfl) (fun k => by
    show fX0_ignoredHas_b21 h RA 103 f nm k2 (k + 1) (nI s) (w + 6 + 5 * s) (nI n) = _
    rw [fX0_ignoredHas_b21, cx.1, gwd_w ww.1, c5, if_pos (nI_le (Nat.le_refl n) (by omega)), n_p1]
    rfl) lpF 0 (by omega) (by rw [lpF_eq]; omega)
  rw [l0]
  exact key
theorem ignoredHas_a {h : HH} {w n first : Nat} {F : Nat → Bool} {V : Nat → TV} {P : List PT} (ww : w268 w) (hn : n ≤ 30) (hw : ∀ s, s < 3 → wfT n F (V s)) (c : ctxA h w n V P first) (f nm : Int32) : fX0_ignoredHas h RA 103 f nm = some (b2i (igH V P f nm)) := by
  obtain ⟨m, hm⟩ : ∃ m, lpF = m + 4 := ⟨4092, rfl⟩
  have step : ∀ s, s < 3 → ∀ k, fX0_ignoredHas_b2 h RA 103 f nm (k + 1) (nI s) = if igHs V P n s f nm = true then some 1 else fX0_ignoredHas_b2 h RA 103 f nm k (nI (s + 1)) := by
    intro s hs k
    rw [fX0_ignoredHas_b2, if_neg (fun z => by have := (n_le (show (3 : Int32) = nI 3 by decide) (by decide) s (by omega)).mp z; omega), c.1.1, gwd_w ww.1, ww.2.2.1, ww.2.2.2.2.2.2.2.1, gd_in hs (by decide), ix_n (show s < 2 ^ 31 by omega), (isW_T ww.2 hs).1, igHas_s ww hn c f nm _ hs]
  unfold fX0_ignoredHas
  rw [hm, l0, step 0 (by decide), step 1 (by decide), step 2 (by decide), fX0_ignoredHas_b2, if_pos (show (3 : Int32) ≤ nI (2 + 1) by decide), igH_s hn hw]
  cases igHs V P n 0 f nm <;> cases igHs V P n 1 f nm <;> cases igHs V P n 2 f nm <;> rfl
theorem oI_some (t : Nat) : oI (some t) = nI t := rfl
theorem standing_g {h : HH} {x : T3} (hm : mgA h x) (f nm : Int32) : fX5_standing h RA 108 f nm = some (oI (fnd (fun t => isAtS x.1 t f nm) 0 30)) := by
  rw [standing_n isT_108, hm.1]
theorem leastFree_a {h : HH} {w n first : Nat} {F : Nat → Bool} {V : Nat → TV} {P : List PT} (ww : w268 w) (hn : n ≤ 30) (hw : ∀ s, s < 3 → wfT n F (V s)) (c : ctxA h w n V P first) {x : T3} (hm : mgA h x) (f : Int32) : fX0_leastFreeName h RA 103 f = some (nI (lfn V P x.1 f)) := by
  have key := loop_find (L := fX0_leastFreeName_b2 h RA 103 f) (P := fun k => !(frB V P x.1 f (nI k))) (e := 120) (g := fun y => some (nI (y.getD 120))) (fun k i hi => by
    have l120 : ¬ (120 : Int32) ≤ nI i := fun z => by
      have := (n_le (show (120 : Int32) = nI 120 by decide) (by decide) i (by omega)).mp z
      omega
    rw [fX0_leastFreeName_b2, if_neg l120, G_3, standing_g hm, Option.bind_some, ignoredHas_a ww hn hw c, Option.bind_some, b2i_if]
    simp only [fX0_leastFreeName_b30, n_p1]
    unfold frB anyN
    cases e : fnd (fun t => isAtS x.1 t f (nI i)) 0 30 with
    | some j =>
      have := fnd_lt e
      rw [if_pos (oI_ne (by omega))]
      rfl
    | none =>
      rw [if_neg (fun z => z rfl)]
      cases igH V P f (nI i) <;> rfl) (fun k => by
    rw [fX0_leastFreeName_b2, if_pos (show (120 : Int32) ≤ nI 120 by decide)]
    rfl) lpF 0 (by omega) (by rw [lpF_eq]; omega)
  unfold fX0_leastFreeName
  rw [l0, key]
  rfl
theorem fnd_self {Q : Nat → Bool} {i : Nat} (hi : i < 30) (hq : Q i = true) : ∃ j, j ≤ i ∧ fnd Q 0 30 = some j ∧ (j < i ↔ anyN i Q = true) := by
  have hs : anyN 30 Q = true := anyN_iff.mpr ⟨i, hi, hq⟩
  unfold anyN at hs
  cases e : fnd Q 0 30 with
  | none => rw [e] at hs; cases hs
  | some j =>
    have hj := fnd_lt e
    have first : ∀ (k a : Nat) (j : Nat), fnd Q a k = some j → ∀ t, a ≤ t → t < j → Q t = false := by
      intro k
      induction k with
      | zero => intro a j h; cases h
      | succ k ih =>
        intro a j h t h1 h2
        unfold fnd at h
        by_cases hp : Q a = true
        · rw [if_pos hp] at h
          have := Option.some.inj h
          omega
        · rw [if_neg hp] at h
          by_cases et : t = a
          · rw [et]; simpa using hp
          · exact ih (a + 1) j h t (by omega) h2
    have hle : j ≤ i := by
      by_cases e2 : i < j
      · rw [first 30 0 j e i (by omega) e2] at hq
        cases hq
      · omega
    refine ⟨j, hle, rfl, fun h => anyN_iff.mpr ⟨j, h, hj.2.2⟩, fun h => ?_⟩
    obtain ⟨t, t1, t2⟩ := anyN_iff.mp h
    by_cases e2 : t < j
    · rw [first 30 0 j e t (by omega) e2] at t2
      cases t2
    · omega
theorem isAtS_self {v : TV} {t : Nat} (h : isIn v t = true) : isAtS v t (vF v t) (vN v t) = true := by
  unfold isIn at h
  unfold isAtS vF vN
  cases e : v t with
  | none => rw [e] at h; cases h
  | some x => simp
theorem sp5_tot {V : Nat → TV} {P : List PT} {i : Nat} {x : T3} : (sp5 V P i x).2.1 = x.2.1 := by
  unfold sp5
  split
  · split <;> rfl
  · rfl
theorem names_a {h : HH} {w n first : Nat} {F : Nat → Bool} {V : Nat → TV} {P : List PT} (ww : w268 w) (hn : n ≤ 30) (hw : ∀ s, s < 3 → wfT n F (V s)) (c : ctxA h w n V P first) {x0 : T3} (hm : mgA h x0) (hl : x0.2.2.length ≤ 120) : ∃ h', fX0_mendNames h RA 103 = some h' ∧ ctxA h' w n V P first ∧ mgA h' (fld (sp5 V P) 0 x0.2.1 x0) ∧ frD h h' := by
  have t30 : x0.2.1 ≤ 30 := hm.2.2.2.1
  have key := loop_rel (L := fX0_mendNames_b2 RA 103) (e := x0.2.1) (f := sp5 V P) (R := fun i z x => frD h z ∧ mgA z x ∧ x.2.1 = x0.2.1 ∧ x.2.2.length ≤ 120 + i) (g := fun z => some z) (fun k i z x hi hR => by
    obtain ⟨I1, I2, I4, I3⟩ := hR
    have cz := ctxA_fr ww I1 c
    have i30 : i < 30 := by omega
    obtain ⟨G, tot, C⟩ := x
    have I3 : C.length ≤ 120 + i := I3
    have I4 : tot = x0.2.1 := I4
    have b86 : ∀ y : HH, fX0_mendNames_b86 RA 103 (fun h_ z1_ => fX0_mendNames_b2 RA 103 k h_ z1_) y (nI i) = fX0_mendNames_b2 RA 103 k y (nI (i + 1)) := fun y => by unfold fX0_mendNames_b86; rw [n_p1]
    obtain ⟨k1, k2, k3, k4, k5, k6⟩ := G_g
    obtain ⟨w1, w2, w3⟩ := mgA_rows I2 i30
    have w1 : z 110 i = vF G i := w1
    have w2 : z 111 i = vN G i := w2
    have w3 : z 112 i = vC G i := w3
    have e4 : z 103 4 = nI x0.2.1 := I2.2.2.1.trans (congrArg nI I4)
    rw [fX0_mendNames_b2, e4, if_neg (nI_ge hi (by omega)), G_3, mgA_has I2 i30, Option.bind_some, b2i_ifn, b86, k1, k4, gd_in i30 n30, lt_eq, k2, k5, gd_in i30 n30, lt_eq, ix_n (show i < 2 ^ 31 by omega), w1, w2, standing_g I2, Option.bind_some]
    unfold sp5
    show ∃ s', (if isIn G i = true then _ else _) = _ ∧ _
    cases hin : isIn G i with
    | false => exact ⟨z, rfl, I1, I2, I4, by show C.length ≤ 120 + (i + 1); omega⟩
    | true =>
    rw [if_pos rfl, if_pos rfl]
    obtain ⟨j, j1, j2, j3⟩ := fnd_self (Q := fun t => isAtS G t (vF G i) (vN G i)) i30 (isAtS_self hin)
    have j2 : fnd (fun t => isAtS G t (vF G i) (vN G i)) 0 30 = some j := j2
    obtain ⟨m1, m2⟩ := mgA_cols (h' := up z 111 i (nI (lfn V P G (vF G i)))) (a := vF G i) (b := nI (lfn V P G (vF G i))) (c := vC G i) i30 I2 hin (fun q q1 q2 q3 => by rw [up_ne q2]) (fun j => by rw [up_ne (by decide)]; exact up_cols (G := fun t => vF G t) w1) (fun j => by rw [up_at]) (fun j => by rw [up_ne (by decide)]; exact up_cols (G := fun t => vC G t) w3)
    obtain ⟨zc, q1, q2, q3⟩ := mgA_clash m1 (show C.length < 150 by omega) 3 i
    have b66 : fX0_mendNames_b66 RA 103 (fun h_ z1_ => fX0_mendNames_b2 RA 103 k h_ z1_) z (nI i) (vF G i) = fX0_mendNames_b2 RA 103 k zc (nI (i + 1)) := by
      unfold fX0_mendNames_b66
      rw [leastFree_a ww hn hw cz I2, Option.bind_some, G_3, k2, k5, gd_in i30 n30, lt_eq, ix_n (show i < 2 ^ 31 by omega), q1, Option.bind_some, b86]
    rw [j2, oI_some, b66, ignoredHas_a ww hn hw cz, Option.bind_some, b2i_if]
    dsimp only
    cases ha : anyN i (fun t => isAtS G t (vF G i) (vN G i)) with
    | true =>
      rw [if_pos (nI_lt (j3.mpr ha) (by omega))]
      exact ⟨zc, rfl, frD_trans I1 (frD_trans m2 q3), q2, I4, by show (C ++ [((3 : Int32), i)]).length ≤ 120 + (i + 1); simp; omega⟩
    | false =>
      rw [if_neg (fun z => by
        have := j3.mp ((nI_ltI (by omega) (by omega)).mp z)
        have ha : anyN i (fun t => isAtS G t (vF G i) (vN G i)) = false := ha
        rw [ha] at this
        cases this)]
      cases hb : igH V P (vF G i) (vN G i) with
      | true => exact ⟨zc, rfl, frD_trans I1 (frD_trans m2 q3), q2, I4, by show (C ++ [((3 : Int32), i)]).length ≤ 120 + (i + 1); simp; omega⟩
      | false => exact ⟨z, rfl, I1, I2, I4, by show C.length ≤ 120 + (i + 1); omega⟩) (fun k z x hR => by
    obtain ⟨I1, I2, I4, I3⟩ := hR
    rw [fX0_mendNames_b2, I2.2.2.1, I4, if_pos (nI_le (Nat.le_refl _) (by omega))]) lpF h x0 (by rw [lpF_eq]; omega) ⟨frD_rfl, hm, rfl, by omega⟩
  obtain ⟨z, ⟨I1, I2, -⟩, E⟩ := key
  rw [← l0] at E
  exact ⟨z, E, ctxA_fr ww I1 c, I2, I1⟩
theorem settle_a {h : HH} {w n first : Nat} {F : Nat → Bool} {V : Nat → TV} {P : List PT} {pr c0 c1 c2 : Int32} (ww : w268 w) (hf : first < 2) (hw : wA h w (n, F, V, P, pr, c0, c1, c2)) (hwf : ∀ s, s < 3 → wfT n F (V s)) : ∃ h', fX0_settle h RA 103 w (nI first) = some h' ∧ frC w h h' ∧ wA h' w (n, F, V, P, pr, c0, c1, c2) ∧ ctxA h' w n V P first ∧ mgA h' (t5S V P n first) := by
  have hl := w268_lt ww
  have hn : n ≤ 30 := hw.1
  obtain ⟨h1, e1, e2, e3, e4⟩ := compare_a ww hw hwf
  have w1 := frC_w ww e2 hw
  obtain ⟨h2, f1, f2, f3, f4⟩ := clear_n (h := up (up (up h1 103 5 (nI first)) 103 4 (nI n)) 103 8 0) isT_108
  have h23 : ∀ j, h2 103 j = if j = 8 then 0 else if j = 4 then nI n else if j = 5 then nI first else h1 103 j := by
    intro j
    rw [f2 103 (by decide) (by decide) (by decide) (by decide), up_at, up_at, up_at]
  have h2q : ∀ q, q ≠ 103 → q ≠ 109 → q ≠ 110 → q ≠ 111 → q ≠ 112 → h2 q = h1 q := fun q q0 q1 q2 q3 q4 => by
    rw [f2 q q1 q2 q3 q4, up_ne q0, up_ne q0, up_ne q0]
  have fr2 : frC w h h2 := fun q q1 q2 => by
    rw [← e2 q q1 q2]
    exact h2q q (by omega) (by omega) (by omega) (by omega) (by omega)
  have w2 := frC_w ww fr2 hw
  have c : ctxA h2 w n V P first := ⟨⟨by rw [h23]; exact e3, w2.2.2.2.2.1⟩, ⟨fun u hu => by rw [h2q 104 (by decide) (by decide) (by decide) (by decide) (by decide)]; exact e4.1 u hu, fun s hs u hu => by rw [h2q (106 + s) (by omega) (by omega) (by omega) (by omega) (by omega)]; exact e4.2 s hs u hu⟩, by rw [h23]; rfl, w2.2.1⟩
  have m0 : mgA h2 (fun _ => none, n, []) := ⟨f3, f4, by rw [h23]; rfl, hn, by rw [h23]; rfl, fun i y hi => by cases hi⟩
  obtain ⟨h3, g1, g2, g3, g4⟩ := who_a ww hn c m0
  obtain ⟨h4, i1, i2, i3, i4⟩ := places_a ww hn hf g2 g3
  obtain ⟨h5, j1, j2, j3, j4⟩ := conts_a ww hn hf i2 i3
  have l3 := t3_inv (V := V) (P := P) (first := first) hn n (Nat.le_refl n)
  obtain ⟨h6, k1, k2, k3, k4, k5⟩ := rings_b (h := h5) 30 lpF 0 h5 (t3S V P n first) (by omega) (by rw [lpF_eq]; omega) frD_rfl j3 (by
    have := l3.2.2.2.2.2.2
    show (fld (sp3 V P first) 0 n (t2S V P n first)).2.2.length ≤ _
    omega)
  obtain ⟨h7, o1, o2, o3, o4⟩ := names_a ww hn hwf (ctxA_fr ww k2 j2) k3 k4
  have frX : frD h2 h7 := frD_trans g4 (frD_trans i4 (frD_trans j4 (frD_trans k2 o4)))
  have fr7 : frC w h h7 := frC_trans fr2 (fun q q1 q2 => frX.1 q (by omega))
  refine ⟨h7, ?_, fr7, frC_w ww fr7 hw, o2, o3⟩
  have en : up h1 103 5 (nI first) w 0 = nI n := by rw [up_ne (by omega)]; exact w1.2.1
  have e103 : up h1 103 5 (nI first) 103 0 = nI w := by rw [up_at]; exact e3
  unfold fX0_settle
  rw [e1, Option.bind_some, lt_eq, e103, gwd_w ww.1, en, lt_eq, lt_eq, G_3, f1, Option.bind_some, g1, Option.bind_some, i1, Option.bind_some, j1, Option.bind_some]
  unfold fX0_mendRings
  rw [l0, k1, Option.bind_some, o1, Option.bind_some]
