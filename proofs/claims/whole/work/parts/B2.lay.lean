/-! the class's plan laid -/
def plOK (z : HH) (V : Nat → TV) (P : List PT) (G : TV) (s i : Nat) : Prop := (∀ t, t < i → z 118 t = b2i (asB V P G s t)) ∧ ∀ t, t < i → z 119 t = if isIn G t = true then nI (dpG G t) else -1
theorem lay_a {h : HH} {w n first s : Nat} {V : Nat → TV} {P : List PT} {x : T3} (ww : w268 w) (hs : s < 2) (c : ctxA h w n V P first) (m : mgA h x) : ∃ h', fX2_lay h RA 115 103 (nI s) = some h' ∧ frP h h' ∧ psA h' (p4S V P x.1 s) := by
  have hl := w268_lt ww
  obtain ⟨rs, hT⟩ := isW_T (s := s) ww.2 (show s < 3 by omega)
  have tr : ∀ z : HH, frP h z → avA z (w + 6 + 5 * s) = V s ∧ clT z (w + 6 + 5 * s) := fun z fz => (ctxA_P ww fz c).1.2 s (by omega)
  have f0 : frP h (up h 115 4 0) := frP_up (by decide) (by decide)
  -- 1: who goes aside
  obtain ⟨z1, ⟨a1, a2, a3, a4⟩, E1⟩ := loop_rel (L := fun k z y => fX2_lay_b24 RA 115 103 (nI s) k z (w + 6 + 5 * s) 108 y) (e := 30) (f := adS (asB V P x.1 s) 0) (R := fun i z S => frP h z ∧ psA z S ∧ plOK z V P x.1 s i ∧ S.length ≤ i) (g := fun z => fX2_lay_b123 RA 115 103 (nI s) lpF z (w + 6 + 5 * s) 108 0) (fun k i z S hi hR => by
    obtain ⟨I1, I2, I3, I4⟩ := hR
    have cz := ctxA_P ww I1 c
    have mz := mgA_P I1 m
    obtain ⟨u1, u2⟩ := tr z I1
    have e44 : frP h (up z 119 i (if isIn x.1 i = true then nI (dpG x.1 i) else -1)) := frP_trans I1 (frP_up (by decide) (by decide))
    have c44 := ctxA_P ww e44 c
    have m44 := mgA_P e44 m
    obtain ⟨v1, v2⟩ := tr _ e44
    have b96 : ∀ b : Bool, b = asB V P x.1 s i → ∃ s', fX2_lay_b96 RA 115 103 (nI s) (fun h_ z3_ z4_ z5_ => fX2_lay_b24 RA 115 103 (nI s) k h_ z3_ z4_ z5_) (up z 119 i (if isIn x.1 i = true then nI (dpG x.1 i) else -1)) 118 (nI i) (b2i b) (w + 6 + 5 * s) 108 (nI i) = fX2_lay_b24 RA 115 103 (nI s) k s' (w + 6 + 5 * s) 108 (nI (i + 1)) ∧ frP h s' ∧ psA s' (adS (asB V P x.1 s) 0 i S) ∧ plOK s' V P x.1 s (i + 1) ∧ (adS (asB V P x.1 s) 0 i S).length ≤ i + 1 := by
      intro b hb
      have ps : psA (up (up z 119 i (if isIn x.1 i = true then nI (dpG x.1 i) else -1)) 118 i (b2i b)) S := ⟨by rw [up_ne (by decide), up_ne (by decide)]; exact I2.1, fun j y hj => by rw [up_ne (by decide), up_ne (by decide), up_ne (by decide), up_ne (by decide)]; exact I2.2 j y hj⟩
      have pk : plOK (up (up z 119 i (if isIn x.1 i = true then nI (dpG x.1 i) else -1)) 118 i (b2i b)) V P x.1 s (i + 1) := by
        refine ⟨fun t ht => ?_, fun t ht => ?_⟩
        · rw [up_at]
          by_cases e : t = i
          · rw [if_pos e, e, hb]
          · rw [if_neg e, up_ne (by decide)]
            exact I3.1 t (by omega)
        · rw [up_ne (by decide), up_at]
          by_cases e : t = i
          · rw [if_pos e, e]
          · rw [if_neg e]
            exact I3.2 t (by omega)
      have f9 : frP h (up (up z 119 i (if isIn x.1 i = true then nI (dpG x.1 i) else -1)) 118 i (b2i b)) := frP_trans e44 (frP_up (by decide) (by decide))
      have hlen := adS_len (B := asB V P x.1 s) (k := 0) (t := i) (S := S)
      unfold fX2_lay_b96
      rw [Ll_118, gd_in hi n30, lt_eq, ix_n (show i < 2 ^ 31 by omega), zn_b, L_2, Ll_118, gd_in hi n30, up_same, b2i_if]
      simp only [fX2_lay_b114, n_p1]
      cases b with
      | false =>
        rw [if_neg (by decide)]
        have : adS (asB V P x.1 s) 0 i S = S := by unfold adS; rw [← hb]; rfl
        rw [this] at hlen ⊢
        exact ⟨_, rfl, f9, ps, pk, by omega⟩
      | true =>
        obtain ⟨za, q1, q2, q3, q4, q5⟩ := add_a ps (show S.length < 120 by omega) 0 i
        rw [if_pos rfl, q1, Option.bind_some]
        have : adS (asB V P x.1 s) 0 i S = S ++ [(0, i)] := by unfold adS; rw [← hb]; rfl
        rw [this] at hlen ⊢
        exact ⟨za, rfl, frP_trans f9 q3, q2, ⟨fun t ht => by rw [q4]; exact pk.1 t ht, fun t ht => by rw [q5]; exact pk.2 t ht⟩, by omega⟩
    have e0 : (0 : Int32) = b2i false := rfl
    have e1 : (1 : Int32) = b2i true := rfl
    have head : fX2_lay_b24 RA 115 103 (nI s) (k + 1) z (w + 6 + 5 * s) 108 (nI i) = fX2_lay_b96 RA 115 103 (nI s) (fun h_ z3_ z4_ z5_ => fX2_lay_b24 RA 115 103 (nI s) k h_ z3_ z4_ z5_) (up z 119 i (if isIn x.1 i = true then nI (dpG x.1 i) else -1)) 118 (nI i) (b2i (asB V P x.1 s i)) (w + 6 + 5 * s) 108 (nI i) := by
      rw [fX2_lay_b24, if_neg (fun z => by have := (le30 (by omega)).mp z; omega), goalDepth_a mz hi, Option.bind_some, L_30, Ll_119, gd_in hi n30, lt_eq, ix_n (show i < 2 ^ 31 by omega), has_n hT hi, Option.bind_some, v1, b2i_if, G_1, Gl_104, gd_in hi n30, c44.2.1.1 i hi, b2i_ifn, mgA_has m44 hi, Option.bind_some, b2i_if, placesAsIn_n hT isT_108 hi v2 m44.2.1, Option.bind_some, v1, m44.1, b2i_ifn, L_2]
      simp only [fX2_lay_b95, fX2_lay_b91]
      unfold asB
      cases isIn (V s) i <;> cases igA V P i <;> cases isIn x.1 i <;> cases plE (V s) x.1 i <;> rfl
    obtain ⟨s', q1, q2⟩ := b96 _ rfl
    exact ⟨s', head.trans q1, q2⟩) (fun k z S hR => by
    show fX2_lay_b24 RA 115 103 (nI s) (k + 1) z (w + 6 + 5 * s) 108 (nI 30) = _
    rw [fX2_lay_b24, if_pos ((le30 (by omega)).mpr (Nat.le_refl 30))]) lpF (up h 115 4 0) [] (by rw [lpF_eq]; omega) ⟨f0, ⟨by rw [up_same]; rfl, fun i y hi => by cases hi⟩, ⟨fun t ht => by omega, fun t ht => by omega⟩, Nat.le_refl _⟩
  -- 2: by depth
  obtain ⟨z2, ⟨b1, b2, b3⟩, E2⟩ := loop_rel (L := fun k z y => fX2_lay_b123 RA 115 103 (nI s) k z (w + 6 + 5 * s) 108 y) (e := 30) (f := dpAll V P x.1 s) (R := fun d z S => frP h z ∧ psA z S ∧ plOK z V P x.1 s 30 ∧ S = fld (dpAll V P x.1 s) 0 d (p1S V P x.1 s)) (g := fun z => fX2_lay_b146 RA 115 103 (nI s) lpF z (w + 6 + 5 * s) 108 0) (fun k d z S hd hR => by
    obtain ⟨I1, I2, I3, I4⟩ := hR
    obtain ⟨zd, ⟨j1, j2, j3, j4⟩, Ed⟩ := loop_rel (L := fun k z y => fX2_addAtDepth_b2 RA 115 (w + 6 + 5 * s) (nI d) k z y) (e := 30) (f := dpStep V P x.1 s d) (R := fun i z T => frP h z ∧ psA z T ∧ plOK z V P x.1 s 30 ∧ T = fld (dpStep V P x.1 s d) 0 i S) (g := fun z => some z) (fun k i z T hi hR => by
      obtain ⟨J1, J2, J3, J4⟩ := hR
      obtain ⟨u1, u2⟩ := tr z J1
      have hT90 : T.length ≤ 90 := by
        rw [J4, I4]
        exact dpAll_60 d i (by omega)
      have e7 : dpStep V P x.1 s d i T = fld (dpStep V P x.1 s d) 0 (i + 1) S := by rw [fld_app, J4]
      obtain ⟨za, q1, q2, q3, q4, q5⟩ := add_a J2 (show T.length < 120 by omega) 1 i
      obtain ⟨zb, r1, r2, r3, r4, r5⟩ := add_a J2 (show T.length < 120 by omega) 2 i
      have head : fX2_addAtDepth_b2 RA 115 (w + 6 + 5 * s) (nI d) (k + 1) z (nI i) = if (isIn x.1 i && decide (dpG x.1 i = d)) = true then (if isIn (V s) i = true then (if asB V P x.1 s i = true then fX2_addAtDepth_b2 RA 115 (w + 6 + 5 * s) (nI d) k zb (nI (i + 1)) else fX2_addAtDepth_b2 RA 115 (w + 6 + 5 * s) (nI d) k z (nI (i + 1))) else fX2_addAtDepth_b2 RA 115 (w + 6 + 5 * s) (nI d) k za (nI (i + 1))) else fX2_addAtDepth_b2 RA 115 (w + 6 + 5 * s) (nI d) k z (nI (i + 1)) := by
        have hdp : dpG x.1 i ≤ 29 := dpS_le
        have hc : ((if isIn x.1 i = true then nI (dpG x.1 i) else -1) = nI d) ↔ (isIn x.1 i && decide (dpG x.1 i = d)) = true := by
          cases isIn x.1 i with
          | false =>
            simp only [Bool.false_and]
            exact ⟨fun z => absurd z.symm (m1_ne d (by omega)), fun z => by cases z⟩
          | true =>
            simp only [Bool.true_and, if_true, decide_eq_true_eq]
            exact ⟨fun z => nI_inj (by omega) (by omega) z, fun z => by rw [z]⟩
        rw [fX2_addAtDepth_b2, if_neg (fun z => by have := (le30 (by omega)).mp z; omega), L_30, Ll_119, gd_in hi n30, ix_n (show i < 2 ^ 31 by omega), J3.2 i hi, has_n hT hi, Option.bind_some, u1, b2i_ifn, L_2, Ll_118, gd_in hi n30, J3.1 i hi, b2i_if, q1, r1, Option.bind_some, Option.bind_some]
        simp only [fX2_addAtDepth_b53, n_p1, hc]
      show ∃ s', fX2_addAtDepth_b2 RA 115 (w + 6 + 5 * s) (nI d) (k + 1) z (nI i) = _ ∧ _
      rw [head, ← e7]
      unfold dpStep
      split
      · split
        · split
          · exact ⟨zb, rfl, frP_trans J1 r3, r2, ⟨fun t ht => by rw [r4]; exact J3.1 t ht, fun t ht => by rw [r5]; exact J3.2 t ht⟩, rfl⟩
          · exact ⟨z, rfl, J1, J2, J3, rfl⟩
        · exact ⟨za, rfl, frP_trans J1 q3, q2, ⟨fun t ht => by rw [q4]; exact J3.1 t ht, fun t ht => by rw [q5]; exact J3.2 t ht⟩, rfl⟩
      · exact ⟨z, rfl, J1, J2, J3, rfl⟩) (fun k z T hR => by
      show fX2_addAtDepth_b2 RA 115 (w + 6 + 5 * s) (nI d) (k + 1) z (nI 30) = _
      rw [fX2_addAtDepth_b2, if_pos ((le30 (by omega)).mpr (Nat.le_refl 30))]) lpF z S (by rw [lpF_eq]; omega) ⟨I1, I2, I3, rfl⟩
    refine ⟨zd, ?_, j1, j2, j3, by rw [fld_app, I4]⟩
    show fX2_lay_b123 RA 115 103 (nI s) (k + 1) z (w + 6 + 5 * s) 108 (nI d) = _
    rw [fX2_lay_b123, if_neg (fun z => by have := (le30 (by omega)).mp z; omega)]
    unfold fX2_addAtDepth
    rw [← l0] at Ed
    have Ed : fX2_addAtDepth_b2 RA 115 (w + 6 + 5 * s) (nI d) lpF z 0 = some zd := Ed
    rw [Ed, Option.bind_some, n_p1]) (fun k z S hR => by
    show fX2_lay_b123 RA 115 103 (nI s) (k + 1) z (w + 6 + 5 * s) 108 (nI 30) = _
    rw [fX2_lay_b123, if_pos ((le30 (by omega)).mpr (Nat.le_refl 30))]) lpF z1 (p1S V P x.1 s) (by rw [lpF_eq]; omega) ⟨a1, a2, a3, rfl⟩
  -- 3: contents
  obtain ⟨z3, ⟨d1, d2, d3, d4⟩, E3⟩ := loop_rel (L := fun k z y => fX2_lay_b146 RA 115 103 (nI s) k z (w + 6 + 5 * s) 108 y) (e := 30) (f := adS (wrC V x.1 s) 3) (R := fun i z S => frP h z ∧ psA z S ∧ plOK z V P x.1 s 30 ∧ S.length ≤ 60 + i) (g := fun z => fX2_lay_b200 RA 115 103 (nI s) lpF z 108 29) (fun k i z S hi hR => by
    obtain ⟨I1, I2, I3, I4⟩ := hR
    have mz := mgA_P I1 m
    obtain ⟨u1, u2⟩ := tr z I1
    obtain ⟨za, q1, q2, q3, q4, q5⟩ := add_a I2 (show S.length < 120 by omega) 3 i
    have hlen := adS_len (B := wrC V x.1 s) (k := 3) (t := i) (S := S)
    have head : fX2_lay_b146 RA 115 103 (nI s) (k + 1) z (w + 6 + 5 * s) 108 (nI i) = if wrC V x.1 s i = true then fX2_lay_b146 RA 115 103 (nI s) k za (w + 6 + 5 * s) 108 (nI (i + 1)) else fX2_lay_b146 RA 115 103 (nI s) k z (w + 6 + 5 * s) 108 (nI (i + 1)) := by
      rw [fX2_lay_b146, if_neg (fun z => by have := (le30 (by omega)).mp z; omega), mgA_has mz hi, Option.bind_some, b2i_if, has_n hT hi, Option.bind_some, u1, b2i_if, holdsAsIn_n hT isT_108 hi u2 mz.2.1, Option.bind_some, u1, mz.1, b2i_ifn, q1, Option.bind_some]
      simp only [fX2_lay_b190, n_p1]
      unfold wrC
      cases isIn x.1 i <;> cases isIn (V s) i <;> cases ctE (V s) x.1 i <;> rfl
    show ∃ s', fX2_lay_b146 RA 115 103 (nI s) (k + 1) z (w + 6 + 5 * s) 108 (nI i) = _ ∧ _
    rw [head]
    unfold adS at hlen ⊢
    cases hw : wrC V x.1 s i with
    | true =>
      rw [hw, if_pos rfl] at hlen
      exact ⟨za, rfl, frP_trans I1 q3, q2, ⟨fun t ht => by rw [q4]; exact I3.1 t ht, fun t ht => by rw [q5]; exact I3.2 t ht⟩, by show (S ++ [((3 : Int32), i)]).length ≤ _; omega⟩
    | false => exact ⟨z, rfl, I1, I2, I3, by show S.length ≤ _; omega⟩) (fun k z S hR => by
    show fX2_lay_b146 RA 115 103 (nI s) (k + 1) z (w + 6 + 5 * s) 108 (nI 30) = _
    rw [fX2_lay_b146, if_pos ((le30 (by omega)).mpr (Nat.le_refl 30))]) lpF z2 (p2S V P x.1 s) (by rw [lpF_eq]; omega) ⟨b1, b2, b3.1, by have := p2_60 (V := V) (P := P) (G := x.1) (s := s) 30; exact this⟩
  -- 4: removals
  have down : ∀ (q k : Nat) (z : HH) (S : CL), q ≤ 30 → q < k → frP h z → psA z S → plOK z V P x.1 s 30 → S.length + q ≤ 120 → ∃ z', fX2_lay_b200 RA 115 103 (nI s) k z 108 (nI q - 1) = some z' ∧ frP h z' ∧ psA z' (dnS (rmC V P x.1 s) 4 q S) := by
    intro q
    induction q with
    | zero =>
      intro k z S _ hk I1 I2 I3 _
      obtain ⟨k, rfl⟩ : ∃ z, k = z + 1 := ⟨k - 1, by omega⟩
      refine ⟨z, ?_, I1, I2⟩
      rw [fX2_lay_b200, if_pos (show nI 0 - 1 < 0 by decide)]
    | succ q ih =>
      intro k z S hq hk I1 I2 I3 I4
      obtain ⟨k, rfl⟩ : ∃ z, k = z + 1 := ⟨k - 1, by omega⟩
      have mz := mgA_P I1 m
      obtain ⟨za, q1, q2, q3, q4, q5⟩ := add_a I2 (show S.length < 120 by omega) 4 q
      have hlen := adS_len (B := rmC V P x.1 s) (k := 4) (t := q) (S := S)
      have head : fX2_lay_b200 RA 115 103 (nI s) (k + 1) z 108 (nI (q + 1) - 1) = if rmC V P x.1 s q = true then fX2_lay_b200 RA 115 103 (nI s) k za 108 (nI q - 1) else fX2_lay_b200 RA 115 103 (nI s) k z 108 (nI q - 1) := by
        rw [fX2_lay_b200, nI_pred, if_neg (n_lt0 q (by omega)), L_2, Ll_118, gd_in (show q < 30 by omega) n30, ix_n (show q < 2 ^ 31 by omega), I3.1 q (by omega), b2i_if, mgA_has mz (by omega), Option.bind_some, b2i_ifn, q1, Option.bind_some]
        simp only [fX2_lay_b232, n_m1]
        unfold rmC
        cases asB V P x.1 s q <;> cases isIn x.1 q <;> rfl
      rw [head]
      show ∃ z', _ = _ ∧ frP h z' ∧ psA z' (dnS (rmC V P x.1 s) 4 q (adS (rmC V P x.1 s) 4 q S))
      unfold adS at hlen ⊢
      cases hw : rmC V P x.1 s q with
      | true =>
        rw [hw, if_pos rfl] at hlen
        rw [if_pos rfl, if_pos rfl]
        exact ih k za _ (by omega) (by omega) (frP_trans I1 q3) q2 ⟨fun t ht => by rw [q4]; exact I3.1 t ht, fun t ht => by rw [q5]; exact I3.2 t ht⟩ (by omega)
      | false =>
        rw [if_neg (by decide), if_neg (by decide)]
        exact ih k z S (by omega) (by omega) I1 I2 I3 (by omega)
  obtain ⟨z4, e1, e2, e3⟩ := down 30 lpF z3 (p3S V P x.1 s) (Nat.le_refl _) (by rw [lpF_eq]; omega) d1 d2 d3 (by have := p3_90 (V := V) (P := P) (G := x.1) (s := s); omega)
  have e29 : nI 30 - 1 = 29 := by decide
  rw [e29] at e1
  refine ⟨z4, ?_, e2, e3⟩
  rw [← l0] at E1 E2 E3
  have E1 : fX2_lay_b24 RA 115 103 (nI s) lpF (up h 115 4 0) (w + 6 + 5 * s) 108 0 = fX2_lay_b123 RA 115 103 (nI s) lpF z1 (w + 6 + 5 * s) 108 0 := E1
  have E2 : fX2_lay_b123 RA 115 103 (nI s) lpF z1 (w + 6 + 5 * s) 108 0 = fX2_lay_b146 RA 115 103 (nI s) lpF z2 (w + 6 + 5 * s) 108 0 := E2
  have E3 : fX2_lay_b146 RA 115 103 (nI s) lpF z2 (w + 6 + 5 * s) 108 0 = fX2_lay_b200 RA 115 103 (nI s) lpF z3 108 29 := E3
  unfold fX2_lay
  rw [c.1.1, gwd_w ww.1, ww.2.2.1, ww.2.2.2.2.2.2.2.1, gd_in (show s < 3 by omega) (by decide), lt_eq, ix_n (show s < 2 ^ 31 by omega), rs, G_3, E1, E2, E3, e1]
